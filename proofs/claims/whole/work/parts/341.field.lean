/-! PURE LAYER: field -/
section FI
variable {N T D : Nat} {x : Nat → Int32}
theorem dig_val {x : Int32} (h : inR x 48 57 = true) : dg (x - 48) := by
  obtain ⟨c, h1, rfl, h2, h3⟩ := (inR_iff (by omega) (by omega)).mp h
  exact ⟨c - 48, by omega, by rw [show (48 : Int32) = mI 48 from rfl, mI_sub h2 (by omega)]⟩
theorem c_fread {σ : uS} (hT : σ.1 1 1 = mI T) (hT80 : T ≤ 80) (hs : ∀ k, k < T → σ.1 2 k = x k &&& 255) (hD : D ≤ min T 16) (h1 : ∀ k, k < D → inR (x k &&& 255) 48 57 = true) (h2 : D < min T 16 → inR (x D &&& 255) 48 57 = false) (h9 : σ.1 9 1 = 0) (hN : 500 < N) : ok (f_X5_wrongAt_X2 N σ 16) (fun z => z.1 = (if D = T ∧ 0 < D then -1 else mI D) ∧ z.2.1 9 1 = mI D ∧ (∀ k, k < D → z.2.1 10 k = (x k &&& 255) - 48) ∧ cX (fun a => a = 9 ∨ a = 10) σ z.2) := by
  unfold f_X5_wrongAt_X2
  simp only [jn_eq]
  rw [hT]
  refine lp2_ok (fun k s y => k ≤ D ∧ y = mI k ∧ s.1 9 1 = mI k ∧ (∀ i, i < k → s.1 10 i = (x i &&& 255) - 48) ∧ cX (fun a => a = 9 ∨ a = 10) σ s) D N _ _ (by omega) ?_ ⟨by omega, rfl, by rw [p_Ia (by omega), h9]; rfl, fun i hi => absurd hi (by omega), fun a ha _ => p_Ia ha, p_II _ _ _ _, rfl⟩
  rintro k s y rec hk ⟨-, rfl, e9, e10, hc⟩ hrec
  have e2 : ∀ k, k < T → s.1 2 k = x k &&& 255 := fun k hk => by rw [hc.1 2 (by omega) (by omega)]; exact hs k hk
  unfold b_X5_wrongAt_X2_13
  by_cases hkT : k < T
  · rw [if_neg (mnle (by omega) (by omega) hkT)]
    by_cases hk16 : k < 16
    · rw [if_neg (lnle 16 16 rfl (by omega) (by omega) hk16), c_signAt (by omega), o_bind, e2 k hkT]
      unfold f_X2_takes
      rw [c_isDigit, o_bind]
      by_cases hkD : k < D
      · rw [h1 k hkD, if_pos rfl, if_neg n10, e9, if_neg (mI_n0 (by omega)), cl_10, o_bind, if_pos (mlt (by omega) (by omega) hk16), cw_10 (by omega), o_bind]
        simp only [jn_eq, o_bind, i10, if_false]
        rw [p_Ia (by omega), e9, mI_succ]
        refine hrec _ _ hkD ⟨by omega, rfl, p_II _ _ _ _, fun i hi => ?_, fun a ha hna => ?_, ?_, hc.2.2⟩
        · rw [p_Ia (by omega)]
          by_cases hik : i = k
          · rw [hik, p_II]
          · rw [p_Is hik]; exact e10 i (by omega)
        · rw [p_Ia (by omega), p_Ia (by omega)]; exact hc.1 a ha hna
        · rw [p_Ia (by omega), p_Ia (by omega)]; exact hc.2.1
      · have hkD' : k = D := by omega
        subst hkD'
        rw [h2 (by omega)]
        simp only [Bool.false_eq_true, if_false, if_true, o_bind, ok_some]
        exact ⟨by rw [if_neg (by omega)], e9, e10, hc⟩
    · have hkD' : k = D := by omega
      subst hkD'
      rw [if_pos (lle 16 16 rfl (by omega) (by omega) (by omega)), ok_some]
      exact ⟨by rw [if_neg (by omega)], e9, e10, hc⟩
  · have hkD' : k = D := by omega
    have hkT' : k = T := by omega
    subst hkD'
    rw [if_pos (mle (by omega) (by omega) (by omega))]
    show ok ((f_X2_takesEnd N s).bind fun v5 => if v5 = 0 then some (mI T, s) else some (-1, s)) _
    unfold f_X2_takesEnd
    rw [e9]
    by_cases h0 : k = 0
    · rw [if_pos (rle 0 0 rfl (by omega) (by omega) (by omega)), o_bind, if_pos rfl, ok_some]
      exact ⟨by rw [if_neg (by omega), hkT'], e9, e10, hc⟩
    · rw [if_neg (rnle 0 0 rfl (by omega) (by omega) (by omega)), o_bind, if_neg n10, ok_some]
      exact ⟨by rw [if_pos (by omega)], e9, e10, hc⟩
theorem m_fread {σ : uS} {J : uS → Int32 → Option (Int32 × uS)} {Q : Int32 × uS → Prop} (hT : σ.1 0 5 = mI T) (hT80 : T ≤ 80) (hb : ∀ k, k < T → u_nar 2 (σ.1 3 k) = σ.1 3 k) (hD : D ≤ min T 16) (h1 : ∀ k, k < D → inR (σ.1 3 k &&& 255) 48 57 = true) (h2 : D < min T 16 → inR (σ.1 3 D &&& 255) 48 57 = false) (hN : 500 < N)
    (hok : D = T → 0 < D → ∀ t, rdS t 3 T 16 D → (∀ k, k < D → t.1 5 k = (σ.1 3 k &&& 255) - 48) → mfr (fun c => c = 5 ∨ c = 14) (fun s => s = 12 ∨ s = 13) (BT σ 16) t → ok (J t (mI D)) Q)
    (hbad : ¬ (D = T ∧ 0 < D) → ∀ t t2 y, f_X12_wasRight N t = some (0, t2) → t2.1 0 13 = mI D → mfr (fun c => c = 5 ∨ c = 14) (fun s => s = 12 ∨ s = 13) (BT σ 16) t2 → ok (J t y) Q) : ok (u_lp2 (b_X12_field_13 N J) N (BT σ 16) 0) Q := by
  have hB := BT_rd (top := 16) hT
  have hx3 : (BT σ 16).1 3 = σ.1 3 := (BT_fr σ 16).1 3 (by omega) (fun h => h)
  have hq : qOK 3 T := Or.inl ⟨rfl, hT80⟩
  refine lp2_ok (fun k t y => k ≤ D + 1 ∧ y = mI k ∧ mfr (fun c => c = 5 ∨ c = 14) (fun s => s = 12 ∨ s = 13) (BT σ 16) t ∧ ((k ≤ D ∧ rdS t 3 T 16 k ∧ ∀ i, i < k → t.1 5 i = (σ.1 3 i &&& 255) - 48) ∨ (k = D + 1 ∧ ¬ (D = T ∧ 0 < D) ∧ t.1 0 13 = mI D))) (D + 1) N _ _ (by omega) ?_ ⟨by omega, rfl, mfr.rfl, Or.inl ⟨by omega, hB.1, fun i hi => absurd hi (by omega)⟩⟩
  rintro k t y rec hk ⟨-, rfl, hm, hI⟩ hrec
  unfold b_X12_field_13
  rcases hI with ⟨hkD, hrd, h5⟩ | ⟨rfl, hne, h13⟩
  · have ht3 : t.1 3 = σ.1 3 := by rw [hm.1 3 (by omega) (by omega)]; exact hx3
    rw [m_fine1 hrd.2.2.2.2, o_bind, if_neg n10, m_here hrd hq (by omega) (by omega), ht3]
    have hone := m_oneOf1 (N := N) (a := 48) (m := 10) hrd hq (by omega) (by omega) (by rw [ht3]; exact hb) (by omega) (by omega)
    rw [ht3] at hone
    have hone : f_X12_oneOf N t 48 10 = _ := hone
    rw [hone]
    simp only [jn_eq, mI_succ, o_bind]
    by_cases hlt : k < D
    · have hin : k < T ∧ k < 16 := by omega
      have hhk : hh (σ.1 3) T 16 k = σ.1 3 k &&& 255 := hh_in hin
      have hne : ¬ hh (σ.1 3) T 16 k = -1 := fun h => by
        have := h1 k hlt
        rw [← hhk, h, inR_m1 (by omega) (by omega)] at this
        cases this
      rw [if_neg hne, hhk, show (48 + 10 - 1 : Nat) = 57 from rfl, h1 k hlt, if_pos rfl]
      have step : ok ((u_wI ZM (u_pI t 0 12 (mI (k + 1))) 0 5 (mI k) ((σ.1 3 k &&& 255) - mI 48)).bind fun s28 => rec s28 (mI (k + 1))) Q := by
        rw [mw_5 (by omega), o_bind]
        refine hrec _ _ (by omega) ⟨by omega, rfl, (hm.p0 (Or.inl rfl)).pI (by omega) (Or.inl rfl), Or.inl ⟨by omega, ⟨hrd.1, ?_, ?_, ?_, ?_⟩, fun i hi => ?_⟩⟩
        · rw [p_Ia (by omega), p_Is (by omega)]; exact hrd.2.1
        · rw [p_Ia (by omega), p_Is (by omega)]; exact hrd.2.2.1
        · rw [p_Ia (by omega), p_II]
        · rw [p_Ia (by omega), p_Is (by omega)]; exact hrd.2.2.2.2
        · by_cases hik : i = k
          · rw [hik, p_II]; rfl
          · rw [p_Is hik, p_Ia (by omega)]; exact h5 i (by omega)
      split
      · exact step
      · exact step
    · have hkD' : k = D := by omega
      subst hkD'
      by_cases hin : k < T ∧ k < 16
      · have hhk : hh (σ.1 3) T 16 k = σ.1 3 k &&& 255 := hh_in hin
        have hne : ¬ hh (σ.1 3) T 16 k = -1 := fun h => by
          obtain ⟨c, g1, g2⟩ := and255 (σ.1 3 k)
          rw [hhk, g2] at h
          exact absurd (m1_le c (by omega)).2 (by rw [h]; decide)
        rw [if_neg hne, hhk, show (48 + 10 - 1 : Nat) = 57 from rfl, h2 (by omega), if_neg Bool.false_ne_true]
        have step : ok ((u_wI ZM (u_pI t 0 13 (mI k)) 0 5 (mI k) 0).bind fun s28 => rec s28 (mI (k + 1))) Q := by
          rw [mw_5 (by omega), o_bind]
          exact hrec _ _ (by omega) ⟨by omega, rfl, (hm.p0 (Or.inr rfl)).pI (by omega) (Or.inl rfl), Or.inr ⟨rfl, by omega, by rw [p_Ia (by omega), p_II]⟩⟩
        split
        · exact step
        · exact step
      · have hhk : hh (σ.1 3) T 16 k = -1 := hh_out hin
        rw [hhk, if_pos rfl, inR_m1 (by omega) (by omega), if_neg Bool.false_ne_true]
        by_cases h0 : k = 0
        · subst h0
          rw [if_pos (show mI 0 = 0 from rfl)]
          show ok ((u_wI ZM (u_pI t 0 13 (mI 0)) 0 5 (mI 0) 0).bind fun s28 => rec s28 (mI (0 + 1))) Q
          rw [mw_5 (by omega), o_bind]
          exact hrec _ _ (by omega) ⟨by omega, rfl, (hm.p0 (Or.inr rfl)).pI (by omega) (Or.inl rfl), Or.inr ⟨rfl, by omega, by rw [p_Ia (by omega), p_II]⟩⟩
        · rw [if_neg (show ¬ mI k = 0 by rw [show (0 : Int32) = mI 0 from rfl, mI_eq (by omega) (by omega)]; exact h0)]
          by_cases hkT : k = T
          · exact hok hkT (by omega) t hrd h5 hm
          · refine hbad (fun h => hkT h.1) t _ _ (by rw [m_right1 hrd (by omega) (by omega), if_neg (by omega)]) (p_II _ _ _ _) (hm.p0 (Or.inr rfl))
  · have h13n : t.1 0 13 ≠ -1 := by
      rw [h13]; intro h; exact absurd (m1_le D (by omega)).2 (by rw [h]; decide)
    rw [m_fine0 h13n, o_bind, if_pos rfl]
    exact hbad hne t t _ (m_right0 h13n) h13 hm
end FI
theorem max1 {D : Nat} (h0 : 0 < D) (hD : D ≤ 16) : (if 1 < (if mI D < 16 then mI D else 16) then (if mI D < 16 then mI D else 16) else (1 : Int32)) = mI D := by
  have : ∀ D : Fin 17, 0 < D.val → (if 1 < (if mI D.val < 16 then mI D.val else 16) then (if mI D.val < 16 then mI D.val else 16) else (1 : Int32)) = mI D.val := by decide +kernel
  exact this ⟨D, by omega⟩ h0
def fldV (v : Nat → Int32) (c : Nat → Int32) (D : Nat) : Nat → Int32 := fun q => if 16 ≤ q ∧ q < 32 then (if q - 16 < D then c (q - 16) else 0) else if q = 32 then 0 else if q = 33 then mI (D - 1) else v q
theorem n_s2_ok (N j : Nat) (hN : 500 < N) (hj : j < 1000) : n_s2 N (Rel N j) (Rel N (j + 1)) := by
  intro σc σm h
  have h := h.thr
  refine two ?_
  unfold f_X12_field f_X11_field f_X2_begin
  simp only [jn_eq]
  generalize u_pI σm 0 8 0 = s1 at h ⊢
  obtain ⟨M, F, ρ, hC, hTo⟩ := h
  obtain ⟨b1, b2, b3, b4, b5, b6, b7⟩ := id hC.1
  obtain ⟨T, d1, d2, d3, d4⟩ := id hC.2.1
  have hrr := hC.2.2.2.2.2.r
  have v1 : (1 : Nat) = 1 ∨ (1 : Nat) = 10 ∨ (1 : Nat) = 11 ∨ (1 : Nat) = 12 := by omega
  obtain ⟨D, D1, D2, D3⟩ := lead (fun k => inR (s1.1 3 k &&& 255) 48 57) (min T 16)
  rw [o_bind, ok_bind, m_bt, o_bind]
  refine ok_mono (c_fread (σ := u_pI σc 9 1 0) (x := s1.1 3) (by rw [p_Ia (by omega)]; exact d2) d1 (fun k hk => by rw [p_Ia (by omega)]; exact (d4 k hk).1) D1 D2 D3 (p_II _ _ _ _) hN) (fun z hz => ?_)
  obtain ⟨z1, z9, z10, zc⟩ := hz
  have zc' : cX (fun a => a = 9 ∨ a = 10) σc z.2 := ⟨fun a h1 h2 => by rw [zc.1 a h1 h2, p_Ia (by omega)], zc.2.1, zc.2.2⟩
  rw [z1]
  by_cases hgood : D = T ∧ 0 < D
  · rw [if_pos hgood, if_pos (show (-1 : Int32) < 0 by decide)]
    -- the class lays it
    have hlay : ok (f_X7_lay N z.2 32) (fun s => (∀ f, f < D → s.1 33 f = (s1.1 3 f &&& 255) - 48) ∧ s.1 32 5 = mI D ∧ s.1 32 6 = 0 ∧ s.1 32 7 = mI (D - 1) ∧ (∀ l, l ≠ 5 → l ≠ 6 → l ≠ 7 → s.1 32 l = z.2.1 32 l) ∧ (∀ a, a ≠ 32 → a ≠ 33 → s.1 a = z.2.1 a) ∧ s.2 = z.2.2) := by
      unfold f_X7_lay
      simp only [jn_eq]
      rw [z9, max1 hgood.2 (by omega)]
      refine lp2_ok (fun k s y => k ≤ D ∧ y = mI k ∧ (∀ f, f < k → s.1 33 f = (s1.1 3 f &&& 255) - 48) ∧ s.1 32 5 = mI D ∧ (∀ l, l ≠ 5 → s.1 32 l = z.2.1 32 l) ∧ (∀ a, a ≠ 32 → a ≠ 33 → s.1 a = z.2.1 a) ∧ s.2 = z.2.2) D N _ _ (by omega) ?_ ⟨by omega, rfl, fun f hf => absurd hf (by omega), p_II _ _ _ _, fun l hl => p_Is hl, fun a ha _ => p_Ia ha, rfl⟩
      rintro k s y rec hk ⟨-, rfl, e33, e5, el, ea, e2⟩ hrec
      unfold b_X7_lay_19
      rw [e5]
      by_cases hlt : k < D
      · rw [if_neg (mnle (by omega) (by omega) hlt), cr_10 (by omega), o_bind, sw_1 (by omega) (by omega) (by omega) (by omega), o_bind]
        simp only [jn_eq, mI_succ]
        refine hrec _ _ hlt ⟨by omega, rfl, fun f hf => ?_, by rw [p_Ia (by omega)]; exact e5, fun l hl => by rw [p_Ia (by omega)]; exact el l hl, fun a h1 h2 => by rw [p_Ia (by omega)]; exact ea a h1 h2, e2⟩
        by_cases hfk : f = k
        · rw [hfk]; show (u_pI s 33 k _).1 33 k = _; rw [p_II, ea 10 (by omega) (by omega)]; exact z10 k hlt
        · show (u_pI s 33 k _).1 33 f = _; rw [p_Is hfk]; exact e33 f (by omega)
      · have hkD : k = D := by omega
        subst hkD
        rw [if_pos (mle (by omega) (by omega) (Nat.le_refl _)), ok_some, p_Is (by omega), e5, mI_pred hgood.2 (by omega)]
        refine ⟨fun f hf => by rw [p_Ia (by omega), p_Ia (by omega)]; exact e33 f hf, by rw [p_Is (by omega), p_Is (by omega)]; exact e5, by rw [p_Is (by omega), p_II], p_II _ _ _ _, fun l h5 h6 h7 => by rw [p_Is h7, p_Is h6]; exact el l h5, fun a h1 h2 => by rw [p_Ia h1, p_Ia h1]; exact ea a h1 h2, e2⟩
    rw [ok_bind]
    refine ok_mono hlay (fun s hs => ?_)
    obtain ⟨l33, l5, l6, l7, ll, la, l2⟩ := hs
    unfold f_X0_clear f_X3_clear
    simp only [jn_eq, o_bind, ok_some]
    rw [p_Ia (by omega), p_Ia (by omega), p_Ia (by omega), p_Ia (by omega), p_Ia (by omega), l5]
    refine m_fread d3 d1 (fun k hk => (d4 k hk).2) D1 D2 D3 hN (fun _ _ t hrd h5 hm => ?_) (fun hn => absurd hgood hn)
    have hX := mX_of hm
    rw [m_right1 hrd (by omega) (by omega), if_pos (by omega), o_bind, if_neg n10]
    have hml : ∀ (J : uS → Option (Int32 × uS)) (Q : Int32 × uS → Prop), (∀ u, (∀ q, q < 37 → u.1 1 q = if 16 ≤ q ∧ q < 32 then (if q - 16 < D then (s1.1 3 (q - 16) &&& 255) - 48 else 0) else s1.1 1 q) → (∀ c, c ≠ 1 → u.1 c = (u_pI t 0 1 (mI D)).1 c) → u.2 = t.2 → ok (J u) Q) → ok (u_lp2 (b_X12_field_73 (mI D) J) N (u_pI t 0 1 (mI D)) 0) Q := by
      intro J Q hJ
      refine lp2_ok (fun k u y => k ≤ 16 ∧ y = mI k ∧ (∀ q, q < 37 → u.1 1 q = if 16 ≤ q ∧ q < 16 + k then (if q - 16 < D then (s1.1 3 (q - 16) &&& 255) - 48 else 0) else s1.1 1 q) ∧ (∀ c, c ≠ 1 → u.1 c = (u_pI t 0 1 (mI D)).1 c) ∧ u.2 = t.2) 16 N _ _ (by omega) ?_ ⟨by omega, rfl, fun q hq => by rw [if_neg (by omega), p_Ia (by omega), hX.1 1 (by omega)], fun c hc => rfl, rfl⟩
      rintro k u y rec hk ⟨-, rfl, e1, ec, e2⟩ hrec
      unfold b_X12_field_73
      by_cases hlt : k < 16
      · rw [if_neg (lnle 16 16 rfl (by omega) (by omega) hlt)]
        simp only [jn_eq, mI_succ, mI_16, vw v1 (show 16 + k < 37 by omega), o_bind]
        have step : ∀ x, x = (if k < D then (s1.1 3 k &&& 255) - 48 else 0) → ok (rec (u_pI u 1 (16 + k) x) (mI (k + 1))) Q := fun x hx => hrec _ _ hlt ⟨by omega, rfl, fun q hq => by
          by_cases hqk : q = 16 + k
          · rw [hqk, p_II, if_pos (by omega), show 16 + k - 16 = k by omega]; exact hx
          · rw [p_Is hqk, e1 q hq]
            by_cases h6 : 16 ≤ q ∧ q < 16 + k
            · rw [if_pos h6, if_pos (show 16 ≤ q ∧ q < 16 + (k + 1) by omega)]
            · rw [if_neg h6, if_neg (show ¬ (16 ≤ q ∧ q < 16 + (k + 1)) by omega)], fun c hc => by rw [p_Ia hc]; exact ec c hc, e2⟩
        by_cases hkD : k < D
        · rw [if_neg (mnle (by omega) (by omega) hkD), mr_5 (by omega), o_bind]
          refine step _ ?_
          rw [if_pos hkD, ec 5 (by omega), p_Ia (by omega)]; exact h5 k hkD
        · rw [if_pos (mle (by omega) (by omega) (by omega))]
          exact step _ (by rw [if_neg hkD])
      · have hk16 : k = 16 := by omega
        subst hk16
        rw [if_pos (lle 16 16 rfl (by omega) (by omega) (Nat.le_refl _))]
        exact hJ u e1 ec e2
    refine hml _ _ (fun u e1 ec e2 => ?_)
    show ok ((u_wI ZM u 0 1 32 0).bind fun s10 => (u_wI ZM s10 0 1 33 (mI D - 1)).bind fun s11 => (f_X12_told N (u_pI s11 0 30 0)).bind fun s13 => some (mI D, s13)) _
    unfold f_X12_told
    rw [vw32 v1, o_bind, vw33 v1, o_bind, mI_pred hgood.2 (by omega)]
    simp only [jn_eq, o_bind, ok_some]
    obtain ⟨a1, a2, a3, a4, a5, a6⟩ := hC
    obtain ⟨C, k1, k2, k3⟩ := a5
    obtain ⟨U, st, p1, p2, p3, p4, p5, p6⟩ := a4
    obtain ⟨m1, m2, m3, m4, m5, m6⟩ := hX
    have sc : ∀ a, a ≠ 1 → a ≠ 5 → a ≠ 8 → a ≠ 9 → a ≠ 10 → a ≠ 32 → a ≠ 33 → (u_pI (u_pI (u_pI (u_pI (u_pI s 8 0 0) 8 1 0) 8 2 0) 5 2 0) 5 3 0).1 a = σc.1 a := fun a g1 g5 g8 g9 g10 g32 g33 => by
      rw [p_Ia g5, p_Ia g5, p_Ia g8, p_Ia g8, p_Ia g8, la a g32 g33, zc'.1 a g1 (by omega)]
    have sc32 : ∀ a, a ≠ 5 → a ≠ 8 → (u_pI (u_pI (u_pI (u_pI (u_pI s 8 0 0) 8 1 0) 8 2 0) 5 2 0) 5 3 0).1 a = s.1 a := fun a g5 g8 => by rw [p_Ia g5, p_Ia g5, p_Ia g8, p_Ia g8, p_Ia g8]
    have es2 : s.2 = σc.2 := l2.trans zc'.2.2
    generalize hsA : u_pI (u_pI (u_pI (u_pI (u_pI s 8 0 0) 8 1 0) 8 2 0) 5 2 0) 5 3 0 = sA at sc sc32
    have eA8 : sA.1 8 0 = 0 ∧ sA.1 8 1 = 0 ∧ sA.1 8 2 = 0 := by
      rw [← hsA]
      refine ⟨?_, ?_, ?_⟩
      · rw [p_Ia (by omega), p_Ia (by omega), p_Is (by omega), p_Is (by omega), p_II]
      · rw [p_Ia (by omega), p_Ia (by omega), p_Is (by omega), p_II]
      · rw [p_Ia (by omega), p_Ia (by omega), p_II]
    have eA5 : sA.1 5 2 = 0 ∧ sA.1 5 3 = 0 := by
      rw [← hsA]
      exact ⟨by rw [p_Is (by omega), p_II], p_II _ _ _ _⟩
    have eA2 : sA.2 = σc.2 := by rw [← hsA]; exact es2
    clear hsA
    have tm : ∀ c, c ≠ 0 → c ≠ 1 → (u_pI (u_pI (u_pI (u_pI (u_pI u 1 32 0) 1 33 (mI (D - 1))) 0 30 0) 0 21 0) 0 33 ((u_pI (u_pI (u_pI (u_pI u 1 32 0) 1 33 (mI (D - 1))) 0 30 0) 0 21 0).1 0 33 + 1)).1 c = t.1 c := fun c g0 g1 => by
      rw [p_Ia g0, p_Ia g0, p_Ia g0, p_Ia g1, p_Ia g1, ec c g1, p_Ia g0]
    have ts : ∀ s', s' ≠ 1 → s' ≠ 21 → s' ≠ 30 → s' ≠ 33 → (u_pI (u_pI (u_pI (u_pI (u_pI u 1 32 0) 1 33 (mI (D - 1))) 0 30 0) 0 21 0) 0 33 ((u_pI (u_pI (u_pI (u_pI u 1 32 0) 1 33 (mI (D - 1))) 0 30 0) 0 21 0).1 0 33 + 1)).1 0 s' = t.1 0 s' := fun s' g1 g21 g30 g33 => by
      rw [p_Is g33, p_Is g21, p_Is g30, p_Ia (by omega), p_Ia (by omega), ec 0 (by omega), p_Is g1]
    have t33 : (u_pI (u_pI (u_pI (u_pI u 1 32 0) 1 33 (mI (D - 1))) 0 30 0) 0 21 0).1 0 33 = mI C := by
      rw [p_Is (by omega), p_Is (by omega), p_Ia (by omega), p_Ia (by omega), ec 0 (by omega), p_Is (by omega), m2 33 (by omega)]; exact k2
    have hV : ∀ q, q < 37 → (u_pI (u_pI (u_pI (u_pI (u_pI u 1 32 0) 1 33 (mI (D - 1))) 0 30 0) 0 21 0) 0 33 ((u_pI (u_pI (u_pI (u_pI u 1 32 0) 1 33 (mI (D - 1))) 0 30 0) 0 21 0).1 0 33 + 1)).1 1 q = fldV (s1.1 1) (fun f => (s1.1 3 f &&& 255) - 48) D q := fun q hq => by
      rw [p_Ia (by omega), p_Ia (by omega), p_Ia (by omega)]
      unfold fldV
      by_cases h33 : q = 33
      · rw [h33, p_II, if_neg (by omega), if_neg (by omega), if_pos rfl]
      · rw [p_Is h33]
        by_cases h32 : q = 32
        · rw [h32, p_II, if_neg (by omega), if_pos rfl]
        · rw [p_Is h32, e1 q hq]
          by_cases h6 : 16 ≤ q ∧ q < 32
          · rw [if_pos h6, if_pos h6]
          · rw [if_neg h6, if_neg h6, if_neg h32, if_neg h33]
    have t21 : (u_pI (u_pI (u_pI (u_pI (u_pI u 1 32 0) 1 33 (mI (D - 1))) 0 30 0) 0 21 0) 0 33 ((u_pI (u_pI (u_pI (u_pI u 1 32 0) 1 33 (mI (D - 1))) 0 30 0) 0 21 0).1 0 33 + 1)).1 0 21 = 0 := by rw [p_Is (by omega), p_II]
    have t30 : (u_pI (u_pI (u_pI (u_pI (u_pI u 1 32 0) 1 33 (mI (D - 1))) 0 30 0) 0 21 0) 0 33 ((u_pI (u_pI (u_pI (u_pI u 1 32 0) 1 33 (mI (D - 1))) 0 30 0) 0 21 0).1 0 33 + 1)).1 0 30 = 0 := by rw [p_Is (by omega), p_Is (by omega), p_II]
    have t1' : (u_pI (u_pI (u_pI (u_pI (u_pI u 1 32 0) 1 33 (mI (D - 1))) 0 30 0) 0 21 0) 0 33 ((u_pI (u_pI (u_pI (u_pI u 1 32 0) 1 33 (mI (D - 1))) 0 30 0) 0 21 0).1 0 33 + 1)).1 0 1 = mI D := by rw [p_Is (by omega), p_Is (by omega), p_Is (by omega), p_Ia (by omega), p_Ia (by omega), ec 0 (by omega), p_II]
    have t33' : (u_pI (u_pI (u_pI (u_pI (u_pI u 1 32 0) 1 33 (mI (D - 1))) 0 30 0) 0 21 0) 0 33 ((u_pI (u_pI (u_pI (u_pI u 1 32 0) 1 33 (mI (D - 1))) 0 30 0) 0 21 0).1 0 33 + 1)).1 0 33 = mI (C + 1) := by rw [p_II, t33, mI_succ]
    have t2' : (u_pI (u_pI (u_pI (u_pI (u_pI u 1 32 0) 1 33 (mI (D - 1))) 0 30 0) 0 21 0) 0 33 ((u_pI (u_pI (u_pI (u_pI u 1 32 0) 1 33 (mI (D - 1))) 0 30 0) 0 21 0).1 0 33 + 1)).2 = t.2 := e2
    generalize u_pI (u_pI (u_pI (u_pI (u_pI u 1 32 0) 1 33 (mI (D - 1))) 0 30 0) 0 21 0) 0 33 ((u_pI (u_pI (u_pI (u_pI u 1 32 0) 1 33 (mI (D - 1))) 0 30 0) 0 21 0).1 0 33 + 1) = tA at tm ts hV t21 t30 t1' t33' t2'
    have eE : tA.1 2 = s1.1 2 := by rw [tm 2 (by omega) (by omega)]; exact m1 2 (by omega)
    obtain ⟨q1, q2, q3, q4, q5, q6, q7, q8, q9, q10, q11⟩ := id b6
    have z32 : ∀ l, z.2.1 32 l = σc.1 32 l := fun l => by rw [zc'.1 32 (by omega) (by omega)]
    have hgd : ∀ f, f < D → dg ((s1.1 3 f &&& 255) - 48) := fun f hf => dig_val (D2 f hf)
    refine ⟨trivial, M, D, ρ, ⟨⟨b1, hgood.2, by omega, t1', by rw [ts 2 (by omega) (by omega) (by omega) (by omega)]; exact (m2 2 (by omega)).trans b5, ?_, ?_⟩, ⟨0, by omega, ?_, ?_, fun k hk => absurd hk (by omega)⟩, ⟨0, by omega, eA8.1, t30, fun k hk => absurd hk (by omega), eA8.2.1, eA8.2.2⟩, ⟨0, st, by omega, eA5.1, t21, fun u' hu => by rw [eA2]; exact p4 u' hu, p5, fun u' hu => absurd hu (by omega)⟩, ⟨C + 1, by omega, t33', fun i hi => ?_⟩, ?_⟩, ?_⟩
    · rw [eE]
      refine cS_congr (v := fldV (s1.1 1) (fun f => (s1.1 3 f &&& 255) - 48) D) (e := s1.1 2) b1 (by omega) (fun k hk => (hV k hk).symm) (fun _ _ => rfl) ⟨fun p hp => ?_, fun p hp => ?_, fun p hp => ?_, fun f hf => ?_, ?_, ?_, ?_, ?_, ?_, ?_, ?_⟩
      · rw [sc (32 + 2) (by omega) (by omega) (by omega) (by omega) (by omega) (by omega) (by omega)]
        unfold fldV; rw [if_neg (by omega), if_neg (by omega), if_neg (by omega)]; exact q1 p hp
      · rw [sc (32 + 5) (by omega) (by omega) (by omega) (by omega) (by omega) (by omega) (by omega)]
        unfold fldV; rw [if_neg (by omega), if_neg (by omega), if_neg (by omega)]; exact q2 p hp
      · rw [sc (32 + 4) (by omega) (by omega) (by omega) (by omega) (by omega) (by omega) (by omega)]; exact q3 p hp
      · rw [sc32 (32 + 1) (by omega) (by omega)]
        unfold fldV; rw [if_pos (by omega), show 16 + f - 16 = f by omega, if_pos hf]; exact l33 f hf
      · rw [sc32 32 (by omega) (by omega)]; exact l5
      · rw [sc32 32 (by omega) (by omega), l6]; unfold fldV; rw [if_neg (by omega), if_pos rfl]
      · rw [sc32 32 (by omega) (by omega), l7]; unfold fldV; rw [if_neg (by omega), if_neg (by omega), if_pos rfl]
      · rw [sc32 32 (by omega) (by omega), ll 8 (by omega) (by omega) (by omega), z32]; exact q8
      · rw [sc32 32 (by omega) (by omega), ll 9 (by omega) (by omega) (by omega), z32]; unfold fldV; rw [if_neg (by omega), if_neg (by omega), if_neg (by omega)]; exact q9
      · rw [sc32 32 (by omega) (by omega), ll 10 (by omega) (by omega) (by omega), z32]; unfold fldV; rw [if_neg (by omega), if_neg (by omega), if_neg (by omega)]; exact q10
      · rw [sc32 32 (by omega) (by omega), ll 11 (by omega) (by omega) (by omega), z32]; unfold fldV; rw [if_neg (by omega), if_neg (by omega), if_neg (by omega)]; exact q11
    · refine vok_congr (v := fldV (s1.1 1) (fun f => (s1.1 3 f &&& 255) - 48) D) b1 (by omega) (fun k hk => (hV k hk).symm) ?_
      obtain ⟨y1, y2, -, y7, d, y8, y9⟩ := b7
      refine ⟨fun p hp => ?_, fun f hf => ?_, ⟨0, D - 1, by omega, by omega, ?_, ?_⟩, ?_, d, by omega, ?_⟩
      · unfold fldV; rw [if_neg (by omega), if_neg (by omega), if_neg (by omega)]; exact y1 p hp
      · unfold fldV; rw [if_pos (by omega), show 16 + f - 16 = f by omega, if_pos hf]; exact hgd f hf
      · unfold fldV; rw [if_neg (by omega), if_pos rfl]; rfl
      · unfold fldV; rw [if_neg (by omega), if_neg (by omega), if_pos rfl]
      · unfold fldV; rw [if_neg (by omega), if_neg (by omega), if_neg (by omega)]; exact y7
      · unfold fldV; rw [if_neg (by omega), if_neg (by omega), if_neg (by omega)]; exact y9
    · rw [sc32 1 (by omega) (by omega), la 1 (by omega) (by omega)]; exact zc'.2.1
    · rw [ts 5 (by omega) (by omega) (by omega) (by omega)]; exact m4
    · obtain ⟨x1, ⟨kc, x2, x3⟩, x4, x5⟩ := k3 i hi
      have e20 : tA.1 20 i = mI kc := by rw [tm 20 (by omega) (by omega), m1 20 (by omega)]; exact x3
      refine ⟨by rw [eA2]; exact x1, ⟨kc, by omega, e20⟩, ?_, fun ht => ?_⟩
      · rw [eA5.2, tb_0, e20, mI_eq (by omega) (by omega)]
        exact ⟨fun h => Bool.noConfusion h, fun h => absurd h.2 (by omega)⟩
      · rw [eA5.2, tb_0] at ht; exact Bool.noConfusion ht
    · exact a6.to (fun r hr => ⟨sc r (by have := hrr r hr; omega) (by have := hrr r hr; omega) (by have := hrr r hr; omega) (by have := hrr r hr; omega) (by have := hrr r hr; omega) (by have := hrr r hr; omega) (by have := hrr r hr; omega), sc (r + 1) (by have := hrr r hr; omega) (by have := hrr r hr; omega) (by have := hrr r hr; omega) (by have := hrr r hr; omega) (by have := hrr r hr; omega) (by have := hrr r hr; omega) (by have := hrr r hr; omega)⟩) (by rw [eA2]) (fun q hq => by have := a6.q q hq; rw [tm q (by omega) (by omega)]; exact m3 q this) (by rw [t2']; exact m6 15 (by omega)) (by rw [t2']; exact m6 16 (by omega)) (by rw [ts 17 (by omega) (by omega) (by omega) (by omega)]; exact m2 17 (by omega))
    · exact hTo.to (by rw [sc 3 (by omega) (by omega) (by omega) (by omega) (by omega) (by omega) (by omega)]) (by rw [eA2]) (by rw [t2', m5]) (by rw [ts 7 (by omega) (by omega) (by omega) (by omega)]; exact m2 7 (by omega))
  · rw [if_neg hgood, if_neg (mI_n0 (by omega)), ok_some]
    refine m_fread d3 d1 (fun k hk => (d4 k hk).2) D1 D2 D3 hN (fun h1 h2 => absurd ⟨h1, h2⟩ hgood) (fun _ t t2 y hw h13 hm => ?_)
    rw [hw, o_bind, if_pos rfl, ok_some, h13]
    exact ⟨rfl, rel_text0 hC hTo (S := fun a => a = 9 ∨ a = 10) (fun a ha => by omega) (fun r hr => by have := hrr r hr; omega) zc' (mX_of hm)⟩
