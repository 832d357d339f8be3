/-! PURE LAYER: weakest -/
theorem mR.eq {N : Nat} {σ σ' : uS} {ρ : Rho} (h : mR N σ ρ) (h6 : σ'.1 6 = σ.1 6) (h7 : σ'.1 7 = σ.1 7) (h17 : σ'.1 0 17 = σ.1 0 17) (h15 : σ'.2.2 0 15 = σ.2.2 0 15) : mR N σ' ρ := by
  obtain ⟨q, hq, hr, hm⟩ := h
  refine ⟨q, hq, by rw [h15]; exact hr, ?_⟩
  have e : σ'.1 q = σ.1 q := by
    rcases hq with rfl | rfl
    · exact h6
    · exact h7
  rw [e, h17]; exact hm
theorem c_soon {N : Nat} {σ : uS} (p : Int32) : f_X11_isSignsCrossings N σ p = some (if p < 1 then 0 else if 20 < p then 0 else 1) := by
  unfold f_X11_isSignsCrossings
  simp only [jn_eq]
  split
  · rfl
  · split <;> rfl
theorem m_soon {N : Nat} {σ : uS} (p : Int32) : f_X12_isSoon N σ p = some (if p < 1 then 0 else if 20 < p then 0 else 1) := by
  unfold f_X12_isSoon
  rw [m_in, o_bind]
  by_cases h1 : p < 1
  · rw [if_pos h1]; rfl
  · rw [if_neg h1]
    by_cases h2 : 20 < p
    · rw [if_pos h2]; rfl
    · rw [if_neg h2]; rfl
def sgV (v : Nat → Int32) (x : Int32) : Nat → Int32 := upV v 34 (v 34 ||| x)
theorem c_bel {N j M F r n : Nat} {ρ : Rho} {σc σm s : uS} {p2 p5 : Int32} (hC : RelC N j M F ρ σc σm) (hf : fr scr σc s) (hr : σc.2.2 0 13 = some r) (hn : n < 500) (hN : 500 < N) : ok (f_X7_believeFrom N s 38 32 p2 r (mI n) p5) (fun s2 => ∃ w, TC M F σc σm w s2 ∧ (p5 = 0 → sIn w (σm.1 2) M = sIn (turnN ρ (σm.1 2) M (sgV (σm.1 1) p2) n) (σm.1 2) M) ∧ (p5 ≠ 0 → 0 < n → (sIn w (σm.1 2) M = 0 ↔ ∃ i, i < n ∧ sIn (turnN ρ (σm.1 2) M (sgV (σm.1 1) p2) (i + 1)) (σm.1 2) M = 0))) := by
  have hR := hC.cR hr
  have hr2 := hR.1
  obtain ⟨⟨b1, b2, b3, b4, b5, b6, b7⟩, -⟩ := hC
  refine ok_mono (c_believe (cS_eq b6 (fun a x y => hf.1 a (by unfold scr; omega))) (hR.fr hf (by unfold scr; omega) (by unfold scr; omega)) b1 b3 hn hN) (fun s2 hs2 => ?_)
  obtain ⟨w, w1, w2, w3, w4⟩ := hs2
  refine ⟨w, ⟨w1, (hf.trans w2).mono (fun a ha => ?_)⟩, w3, w4⟩
  rcases ha with ha | ha
  · exact ha
  · unfold scr; omega
theorem sgV_vok {B M F : Nat} {v : Nat → Int32} {x : Int32} (hM : M ≤ 8) (hF : F ≤ 16) (h : vok B M F v) (hx : lo8 x) : vok B M F (sgV v x) := vok_sig hM hF h (lo8_or h.2.2.2.1 hx)
theorem m_left {N j M F n : Nat} {ρ : Rho} {σc σm t : uS} {p2 : Int32} (hC : RelC N j M F ρ σc σm) (hm : mfr scrM scrT σm t) (hx : lo8 p2) (hn : n < 500) (hN : 500 < N) : ok (f_X12_leftBy N t p2 (mI n)) (fun w => w.1 = bc (sIn (turnN ρ (σm.1 2) M (sgV (σm.1 1) p2) n) (σm.1 2) M) ∧ mfr scrM scrT σm w.2) := by
  have hR : mR N t ρ := hC.2.2.2.2.2.mR.fr hm (by unfold scrM; omega) (by unfold scrM; omega) (nT (by omega))
  obtain ⟨⟨b1, b2, b3, b4, b5, b6, b7⟩, -⟩ := hC
  have e1 : t.1 1 = σm.1 1 := hm.1 1 (by omega) (by unfold scrM; omega)
  have e2 : t.1 2 = σm.1 2 := hm.1 2 (by omega) (by unfold scrM; omega)
  have hl := m_leftBy (N := N) (t := t) (p2 := p2) (n := n) (B := 600 * j) (by rw [hm.2.1 2 (nT (by omega))]; exact b5) (by rw [hm.2.1 1 (nT (by omega))]; exact b4) b1 b3 (by rw [e1]; exact sgV_vok b1 b3 b7 hx) hR hn hN
  rw [e1, e2] at hl
  refine ok_mono hl (fun w hw => ⟨hw.1, (hm.trans hw.2).mono (fun c hc => ?_) (fun c hc => hc.elim id T0_T)⟩)
  rcases hc with hc | hc
  · exact hc
  · unfold scrM; omega
/-- told after a row was looked at between -/
theorem rel_look2' {N j M F : Nat} {ρ : Rho} {σc σm s t w : uS} {x y : Int64} (hC : RelC N j M F ρ σc σm) (hf : fr scr σc s) (hm : mfr scrM scrT σm t) (hw : mfr scrM scrT (mT1 t x) w) : Rel N (j + 1) (cT2 s x y) (u_pI (u_pL w 4 1 y) 0 7 (mI 2)) := by
  have hr := hC.2.2.2.2.2.r
  have hq := hC.2.2.2.2.2.q
  have k1 : cK σc (cT2 s x y) := (cK_scr hC hf).trans (cK_T2 (by rw [hf.2]; exact hr))
  have hs9 : ∀ s, s ≠ 9 → w.2.2 0 s = σm.2.2 0 s := fun s hs => by rw [hw.2.2.2 0 s (by omega), mT1_r]; exact hm.2.2.2 0 s (by omega)
  have k2 : mK σm (u_pI (u_pL w 4 1 y) 0 7 (mI 2)) := by
    refine ⟨fun c hc => ?_, fun s hs => ?_, fun q hq2 => ?_, fun s hs => hs9 s hs⟩
    · rw [p_Ia (by omega), p_LI, hw.1 c (by omega) (by unfold scrM; omega), mT1_a (by omega), hm.1 c (by omega) (by unfold scrM; omega)]
    · rw [p_Is (by omega), p_LI, hw.2.1 s (nT (by omega)), mT1_s (by omega), hm.2.1 s (nT (by omega))]
    · have := hq q hq2
      rw [p_Ia (by omega), p_LI, hw.1 q (by omega) (by unfold scrM; omega), mT1_a (by omega), hm.1 q (by omega) (by unfold scrM; omega)]
  refine ⟨M, F, ρ, hC.to k1 k2, 2, by omega, by unfold cT2; rw [p_II], p_II _ _ _ _, fun k hk => ?_⟩
  unfold cT2 cT1
  by_cases h : k = 1
  · rw [h, p_IL, p_LL, p_IL, p_LL]
  · rw [show k = 0 by omega]
    simp only [p_IL]
    rw [p_Ln (Or.inr (by omega)), p_Ln (Or.inr (by omega)), p_IL, p_LL, hw.2.2.1]
    unfold mT1
    rw [p_IL, p_LL]
theorem n_s20_ok (N j : Nat) (hN : 500 < N) : n_s20 N (Rel N j) (Rel N (j + 1)) := by
  intro σc σm h a1
  have h := h.thr
  refine two ?_
  unfold f_X12_weakest f_X11_weakest
  simp only [jn_eq]
  generalize u_pI σm 0 8 0 = s1 at h ⊢
  have hmono := h.mono
  obtain ⟨M, F, ρ, hC, hTo⟩ := h
  obtain ⟨b1, b2, b3, b4, b5, b6, b7⟩ := id hC.1
  have v1 : (1 : Nat) = 1 ∨ (1 : Nat) = 10 ∨ (1 : Nat) = 11 ∨ (1 : Nat) = 12 := by omega
  rw [c_soon, m_soon, o_bind, o_bind]
  by_cases c1 : a1 < 1
  · rw [if_pos c1, if_pos rfl, if_pos rfl, ok_some, ok_some]
    exact ⟨rfl, hmono⟩
  by_cases c2 : 20 < a1
  · rw [if_neg c1, if_pos c2, if_pos rfl, if_pos rfl, ok_some, ok_some]
    exact ⟨rfl, hmono⟩
  obtain ⟨n, hn0, hn, rfl⟩ := rng (p := a1) (lo := 1) (hi := 20) (by omega) (by omega) c1 c2
  rw [if_neg c1, if_neg c2, if_neg n10, if_neg n10]
  obtain ⟨r, hr, hr2⟩ := hC.hasR
  refine lpr44 (fun k y1 y2 y3 y4 z1 z2 z3 z4 => fr scr σc y1 ∧ mfr scrM scrT s1 z1 ∧ ((y2 = -2 ∧ z2 = -2 ∧ y3 = 9 ∧ z3 = 1000000) ∨ ∃ p m, p < 8 ∧ m ≤ 8 ∧ y2 = mI p ∧ z2 = mI p ∧ y3 = mI m ∧ z3 = mI m) ∧ y4 = mI k ∧ z4 = mI k) M N _ _ _ _ _ _ _ _ (by omega) ?_ ⟨fr.rfl, mfr.rfl, Or.inl ⟨rfl, rfl, rfl, rfl⟩, rfl, rfl⟩
  rintro k y1 y2 y3 y4 z1 z2 z3 z4 rec rec2 hk ⟨i1, i2, i3, rfl, rfl⟩ hrec
  unfold b_X11_weakest_18 b_X12_weakest_24
  have e8 : y1.1 32 8 = mI M := by rw [i1.1 32 (by unfold scr; omega)]; exact b6.2.2.2.2.2.2.2.1
  have e9 : y1.1 32 9 = s1.1 1 34 := by rw [i1.1 32 (by unfold scr; omega)]; exact b6.2.2.2.2.2.2.2.2.1
  have e2 : z1.1 0 2 = mI M := by rw [i2.2.1 2 (nT (by omega))]; exact b5
  have e34 : z1.1 1 34 = s1.1 1 34 := by rw [i2.1 1 (by omega) (by unfold scrM; omega)]
  rw [e8, e2]
  by_cases hlt : k < M
  · rw [if_neg (by rw [mI_le (by omega) (by omega)]; omega), if_neg (by rw [mI_le (by omega) (by omega)]; omega), vr34 v1, o_bind, m_has _ (by omega), o_bind, e34, e9]
    simp only [jn_eq, mI_succ, bit_is (show k < 32 by omega)]
    cases hb : tb (s1.1 1 34) k
    · simp only [Bool.false_eq_true, if_false, if_true]
      have hl8 : lo8 (1 <<< (mI k &&& 31)) := lo8_1 (by omega)
      rw [i1.2, hr, o_bind, o_ck hr2, ok_bind]
      refine ok_mono (c_bel hC i1 hr (show n < 500 by omega) hN) (fun s2 hs2 => ?_)
      obtain ⟨w, w1, w2, -⟩ := hs2
      rw [w1.many b1 hN, o_bind, w2 rfl, ok_swap, ok_bind]
      refine ok_mono (m_left hC i2 hl8 (show n < 500 by omega) hN) (fun t2 ht2 => ?_)
      obtain ⟨g1, g2⟩ := ht2
      rw [g1]
      have hbc := bc_cnt (lo8_sIn (b := turnN ρ (s1.1 2) M (sgV (s1.1 1) (1 <<< (mI k &&& 31))) n) (e := s1.1 2) b1)
      have hcl := cnt_le (sIn (turnN ρ (s1.1 2) M (sgV (s1.1 1) (1 <<< (mI k &&& 31))) n) (s1.1 2) M) 8
      have again := m_left (n := n) hC g2 hl8 (by omega) hN
      rw [hbc] at again ⊢
      generalize cnt (sIn (turnN ρ (s1.1 2) M (sgV (s1.1 1) (1 <<< (mI k &&& 31))) n) (s1.1 2) M) 8 = X at hcl again ⊢
      have up : ok ((f_X12_leftBy N t2.2 (1 <<< (mI k &&& 31)) (mI n)).bind fun v24 => rec2 v24.2 (mI k) v24.1 (mI (k + 1))) (fun b => ok (rec s2 (mI k) (mI X) (mI (k + 1))) (fun a => a.1 = b.1 ∧ Rel N (j + 1) a.2 b.2)) := by
        rw [ok_bind]
        refine ok_mono again (fun t3 ht3 => ?_)
        rw [ht3.1, ok_swap]
        exact hrec _ _ _ _ _ _ _ _ hlt ⟨w1.2, ht3.2, Or.inr ⟨k, X, by omega, hcl, rfl, rfl, rfl, rfl⟩, rfl, rfl⟩
      rcases i3 with ⟨rfl, rfl, rfl, rfl⟩ | ⟨p, m, hp, hm, rfl, rfl, rfl, rfl⟩
      · rw [if_pos (by rw [Int32.lt_iff_toInt_lt, mI_int (by omega)]; show (X : Int) < 1000000; omega), if_neg (by rw [show (9 : Int32) = mI 9 from rfl, mI_le (by omega) (by omega)]; omega)]
        exact up
      · by_cases hx : m ≤ X
        · rw [if_neg (by rw [mI_lt (by omega) (by omega)]; omega), if_pos (by rw [mI_le (by omega) (by omega)]; exact hx), ok_swap]
          exact hrec _ _ _ _ _ _ _ _ hlt ⟨w1.2, g2, Or.inr ⟨p, m, hp, hm, rfl, rfl, rfl, rfl⟩, rfl, rfl⟩
        · rw [if_pos (by rw [mI_lt (by omega) (by omega)]; omega), if_neg (by rw [mI_le (by omega) (by omega)]; exact hx)]
          exact up
    · simp only [if_true, i10, if_false]
      exact hrec _ _ _ _ _ _ _ _ hlt ⟨i1, i2, i3, rfl, rfl⟩
  · rw [if_pos (by rw [mI_le (by omega) (by omega)]; omega), if_pos (by rw [mI_le (by omega) (by omega)]; omega)]
    dsimp only
    rcases i3 with ⟨rfl, rfl, rfl, rfl⟩ | ⟨p, m, hp, hm, rfl, rfl, rfl, rfl⟩
    · rw [if_pos (show (-2 : Int32) < 0 by decide), if_pos rfl, ok_some, ok_some]
      exact ⟨rfl, rel_look0 hC hTo i1 i2⟩
    · rw [if_neg (mI_n0 (k := p) (by omega)), if_neg (fun he => by have := (m1_le p (by omega)).2; rw [he] at this; exact absurd this (by decide)), i1.2, hr, o_bind, o_ck hr2, ok_bind]
      refine ok_mono (c_bel hC i1 hr (show n < 500 by omega) hN) (fun s2 hs2 => ?_)
      obtain ⟨w, w1, w2, -⟩ := hs2
      rw [w1.many b1 hN, o_bind, w2 rfl, c_two, o_bind, ok_some]
      simp only [jn_eq]
      rw [m_tell0, o_bind, ok_bind]
      have hR : mR N z1 ρ := hC.2.2.2.2.2.mR.fr i2 (by unfold scrM; omega) (by unfold scrM; omega) (nT (by omega))
      have q1 : (mT1 z1 (mI m).toInt64).1 1 = s1.1 1 := by rw [mT1_a (by omega), i2.1 1 (by omega) (by unfold scrM; omega)]
      have q2 : (mT1 z1 (mI m).toInt64).1 2 = s1.1 2 := by rw [mT1_a (by omega), i2.1 2 (by omega) (by unfold scrM; omega)]
      have hl := m_leftBy (N := N) (t := mT1 z1 (mI m).toInt64) (p2 := 0) (n := n) (M := M) (F := F) (B := 600 * j) (ρ := ρ) (by rw [mT1_s (by omega)]; exact e2) (by rw [mT1_s (by omega), i2.2.1 1 (nT (by omega))]; exact b4) b1 b3 (by rw [q1]; exact sgV_vok b1 b3 b7 lo8_0) (hR.eq (mT1_a (by omega)) (mT1_a (by omega)) (mT1_s (by omega)) rfl) (by omega) hN
      rw [q1, q2] at hl
      refine ok_mono hl (fun u hu => ?_)
      have e7 : u.2.1 0 7 = mI 1 := by rw [hu.2.2.1 7 (by unfold T0; omega)]; unfold mT1; rw [p_II]
      rw [m_tell e7 (by omega), o_bind, ok_some, hu.1]
      refine ⟨rfl, rel_look2' hC w1.2 i2 (hu.2.mono (fun c hc => ?_) (fun c hc => T0_T hc))⟩
      unfold scrM; omega
