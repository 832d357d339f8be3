/-! PURE LAYER: undo, keep, again -/
theorem n10 : ¬ (1 : Int32) = 0 := by decide
theorem RelC.back {N j M F U U' : Nat} {ρ : Rho} {σc σm s2 sm : uS} {v' : Nat → Int32} (h : RelC N j M F ρ σc σm) (h32 : cS s2 32 M F v' (σm.1 2)) (hc : ∀ a, ¬ (32 ≤ a ∧ a < 38) → a ≠ 5 → s2.1 a = σc.1 a) (hc3 : s2.1 5 3 = σc.1 5 3) (hc2 : s2.2 = σc.2) (hv : vok (600 * j) M F v') (hm : mfr (fun c => c = 1) (fun s => s = 21) σm sm) (hV : ∀ k, k < 37 → sm.1 1 k = v' k) (hu : s2.1 5 2 = mI U') (hu2 : sm.1 0 21 = mI U') (hU : σm.1 0 21 = mI U) (hU12 : U ≤ 12) (hUU : U' ≤ U) : RelC N (j + 1) M F ρ s2 sm := by
  obtain ⟨a1, a2, a3, a4, a5, a6⟩ := h
  obtain ⟨b1, b2, b3, b4, b5, b6, b7⟩ := a1
  have hrr := a6.r
  have hqq := a6.q
  have e2 : sm.1 2 = σm.1 2 := hm.1 2 (by omega) (by omega)
  have ss : ∀ s, s ≠ 21 → sm.1 0 s = σm.1 0 s := fun s h => hm.2.1 s h
  refine ⟨⟨b1, b2, b3, by rw [ss 1 (by omega)]; exact b4, by rw [ss 2 (by omega)]; exact b5, ?_, vok_congr b1 b3 (fun j hj => (hV j hj).symm) (vok_le hv (by omega))⟩, a2.to (by rw [hc 1 (by omega) (by omega)]) (hc 2 (by omega) (by omega)) (hm.1 3 (by omega) (by omega)) (ss 5 (by omega)), a3.to (hc 8 (by omega) (by omega)) (hm.1 16 (by omega) (by omega)) (ss 29 (by omega)) (ss 30 (by omega)), ?_, a5.to (by omega) (by omega) (fun a x y => hc a (by omega) (by omega)) hc3 (by rw [hc2]) (hm.1 18 (by omega) (by omega)) e2 (hm.1 19 (by omega) (by omega)) (hm.1 20 (by omega) (by omega)) (ss 33 (by omega)), a6.to (fun r hr => ?_) (by rw [hc2]) (fun q hq => ?_) (hm.2.2.2 0 15 (by omega)) (hm.2.2.2 0 16 (by omega)) (ss 17 (by omega))⟩
  · rw [e2]; exact cS_congr b1 b3 (fun j hj => (hV j hj).symm) (fun _ _ => rfl) h32
  · obtain ⟨U0, st, p1, p2, p3, p4, p5, p6⟩ := a4
    have hUe : U0 = U := by rw [p3, mI_eq (by omega) (by omega)] at hU; exact hU
    subst hUe
    refine ⟨U', st, by omega, hu, hu2, by rw [hc2]; exact p4, p5, fun u hlt => ?_⟩
    rw [hm.1 9 (by omega) (by omega), e2]
    obtain ⟨y1, y2, y3, y4⟩ := p4 u (by omega)
    exact ⟨cS_eq (p6 u (by omega)).1 (fun a x y => hc a (by omega) (by omega)), vok_le (p6 u (by omega)).2 (by omega)⟩
  · have := hrr r hr
    exact ⟨hc r (by omega) (by omega), hc (r + 1) (by omega) (by omega)⟩
  · have := hqq q hq
    exact hm.1 q (by omega) (by omega)
/-- the reference takes a row back -/
theorem m_undoLp {N o : Nat} {s : uS} (ho : o + 37 ≤ 444) (g : ∀ (s' : uS) (k : Nat), s'.1 0 21 = s.1 0 21 → k < 37 → (37 * s'.1 0 21 + mI k) = mI (o + k)) (hN : 500 < N) : ok (u_lp2 (b_X12_undo_26 (fun (s3 : uS) => (some ((s3.1 0 21), s3) : Option (Int32 × uS)))) N s 0) (fun z => z.1 = s.1 0 21 ∧ (∀ k, k < 37 → z.2.1 1 k = s.1 9 (o + k)) ∧ fr (fun c => c = 1) s z.2) := by
  refine lp2_ok (fun j s' y => y = mI j ∧ (∀ k, k < j → s'.1 1 k = s.1 9 (o + k)) ∧ fr (fun c => c = 1) s s') 37 N _ _ (by omega) ?_ ⟨rfl, fun k h => absurd h (by omega), fr.rfl⟩
  rintro j s' y rec hj ⟨rfl, hq, hf⟩ hrec
  unfold b_X12_undo_26
  have c37 : (37 : Int32) = mI 37 := rfl
  have e0 : s'.1 0 = s.1 0 := hf.1 0 (by omega)
  by_cases hlt : j < 37
  · rw [if_neg (by rw [c37, mI_le (by omega) (by omega)]; omega), g s' j (by rw [e0]) hlt, mr_9 (by omega), o_bind, mw_1 hlt, o_bind]
    simp only [u_jn, mI_succ]
    refine hrec _ _ hlt ⟨rfl, fun k hk => ?_, hf.pI rfl⟩
    by_cases hkj : k = j
    · rw [hkj, p_II, hf.1 9 (by omega)]
    · rw [p_Is hkj]; exact hq k (by omega)
  · have hj7 : j = 37 := by omega
    subst hj7
    rw [if_pos (by rw [c37, mI_le (by omega) (by omega)]; omega), ok_some]
    exact ⟨by rw [e0], hq, hf⟩
theorem n_s14_ok (N j : Nat) (hN : 500 < N) : n_s14 N (Rel N j) (Rel N (j + 1)) := by
  intro σc σm h
  have h := h.thr
  refine two ?_
  unfold f_X12_undo f_X11_undo f_X3_pop
  simp only [u_jn]
  generalize u_pI σm 0 8 0 = s1 at h ⊢
  have hmono := h.mono
  obtain ⟨M, F, ρ, hC, hTo⟩ := h
  obtain ⟨b1, b2, b3, b4, b5, b6, b7⟩ := id hC.1
  obtain ⟨U, st, p1, p2, p3, p4, p5, p6⟩ := id hC.2.2.2.1
  by_cases h0 : U = 0
  · subst h0
    have e1 : mI 0 - 1 < 0 := by decide
    have e2 : mI 0 = 0 := rfl
    rw [p2, if_pos e1, o_bind, p3, if_pos e2, if_pos rfl, ok_some, ok_some]
    exact ⟨rfl, hmono⟩
  · have em : mI U - 1 = mI (U - 1) := mI_pred (by omega) (by omega)
    obtain ⟨y1, y2, y3, y4⟩ := p4 (U - 1) (by omega)
    obtain ⟨o1, o2⟩ := p6 (U - 1) (by omega)
    rw [p2, em, if_neg (mI_n0 (by omega)), cl_6, o_bind, if_neg (by rw [mI_le (by omega) (by omega)]; omega), cr_6 (by omega), y1, o_bind, o_ck (show isS (st (U - 1)) from ⟨by omega, by omega, y4⟩), ok_bind, ok_bind]
    refine ok_mono (c_copy (by omega) (by omega) (by omega) (by omega) (by omega) y4 (by omega) o1 b1 b3) (fun s hs => ?_)
    obtain ⟨f1, f2⟩ := hs
    rw [ok_some, if_neg n10, ok_some, p3, em, if_neg (by rw [mI_eq0 (by omega)]; exact h0)]
    have hlay := m_undoLp (N := N) (o := 37 * (U - 1)) (s := u_pI s1 0 21 (mI (U - 1))) (by omega) (fun s' k hk _ => by rw [hk, p_II, show (37 : Int32) = mI 37 from rfl, show mI 37 * mI (U - 1) = mI (37 * (U - 1)) from (Int32.ofNat_mul 37 (U - 1)).symm, mI_add]) hN
    refine ok_mono hlay (fun z hz => ?_)
    obtain ⟨z1, z2, z3⟩ := hz
    refine ⟨by rw [z1, p_II, p_II], M, F, ρ, hC.back (U := U) (U' := U - 1) (cS_eq f1 (fun a x y => p_Ia (by omega))) (fun a x y => by rw [p_Ia y]; exact f2.1 a (by omega)) (by rw [p_Is (by omega), f2.1 5 (by omega)]) (by rw [p_IL]; exact f2.2) o2 ⟨fun c hc hc1 => by rw [z3.1 c hc1, p_Ia hc], fun s hs => by rw [z3.1 0 (by omega), p_Is hs], by rw [z3.2]; rfl, fun c s _ => by rw [z3.2]; rfl⟩ (fun k hk => by rw [z2 k hk, p_Ia (by omega)]) (p_II _ _ _ _) (by rw [z3.1 0 (by omega), p_II]) p3 p1 (by omega), hTo.to ?_ ?_ ?_ ?_⟩
    · rw [p_Ia (by omega), f2.1 3 (by omega)]
    · rw [p_IL, f2.2]
    · rw [z3.2]; rfl
    · rw [z3.1 0 (by omega), p_Is (by omega)]
theorem m_againLp {N o : Nat} {p : Int32} {s : uS} (ho : o + 37 ≤ 74) (g : ∀ (k : Nat), k < 37 → (37 * p + mI k) = mI (o + k)) (hN : 500 < N) : ok (u_lp2 (b_X12_again_40 p (fun (s5 : uS) => (some (1, u_pI s5 0 21 0) : Option (Int32 × uS)))) N s 0) (fun z => z.1 = 1 ∧ (∀ k, k < 37 → z.2.1 1 k = s.1 18 (o + k)) ∧ mfr (fun c => c = 1) (fun s => s = 21) s z.2 ∧ z.2.1 0 21 = 0) := by
  refine lp2_ok (fun j s' y => y = mI j ∧ (∀ k, k < j → s'.1 1 k = s.1 18 (o + k)) ∧ fr (fun c => c = 1) s s') 37 N _ _ (by omega) ?_ ⟨rfl, fun k h => absurd h (by omega), fr.rfl⟩
  rintro j s' y rec hj ⟨rfl, hq, hf⟩ hrec
  unfold b_X12_again_40
  have c37 : (37 : Int32) = mI 37 := rfl
  by_cases hlt : j < 37
  · rw [if_neg (by rw [c37, mI_le (by omega) (by omega)]; omega), g j hlt, mr_18 (by omega), o_bind, mw_1 hlt, o_bind]
    simp only [u_jn, mI_succ]
    refine hrec _ _ hlt ⟨rfl, fun k hk => ?_, hf.pI rfl⟩
    by_cases hkj : k = j
    · rw [hkj, p_II, hf.1 18 (by omega)]
    · rw [p_Is hkj]; exact hq k (by omega)
  · have hj7 : j = 37 := by omega
    subst hj7
    rw [if_pos (by rw [c37, mI_le (by omega) (by omega)]; omega), ok_some]
    refine ⟨rfl, fun k hk => by rw [p_Ia (by omega)]; exact hq k hk, mfr.p0 ⟨fun c hc hs => hf.1 c hs, fun s hs => by rw [hf.1 0 (by omega)], by rw [hf.2], fun c s _ => by rw [hf.2]⟩ rfl, p_II _ _ _ _⟩
theorem n_s45_ok (N j : Nat) (hN : 500 < N) : n_s45 N (Rel N j) (Rel N (j + 1)) := by
  intro σc σm h a1
  have h := h.thr
  refine two ?_
  unfold f_X12_again f_X11_again f_X3_bringBack
  simp only [u_jn]
  generalize u_pI σm 0 8 0 = s1 at h ⊢
  have hmono := h.mono
  obtain ⟨M, F, ρ, hC, hTo⟩ := h
  obtain ⟨b1, b2, b3, b4, b5, b6, b7⟩ := id hC.1
  obtain ⟨U, hU12, hU⟩ := hC.U
  obtain ⟨C, k1, k2, k3⟩ := id hC.2.2.2.2.1
  rw [m_in, o_bind]
  by_cases c1 : a1 < 0
  · rw [if_pos c1, o_bind, o_ck (Or.inl rfl), ok_some, if_pos c1, if_pos rfl, ok_some]
    exact ⟨rfl, hmono⟩
  by_cases c2 : 1 < a1
  · have c3 : mI 2 ≤ a1 := by
      have := Int32.lt_iff_toInt_lt.mp c2
      rw [show (1 : Int32).toInt = 1 from rfl] at this
      rw [Int32.le_iff_toInt_le, mI_int (by omega)]; omega
    rw [if_neg c1, cl_7, o_bind, if_pos c3, o_bind, o_ck (Or.inl rfl), ok_some, if_neg c1, if_pos c2, if_pos rfl, ok_some]
    exact ⟨rfl, hmono⟩
  obtain ⟨i, -, hi, rfl⟩ := rng (p := a1) (lo := 0) (hi := 1) (by omega) (by omega) c1 c2
  obtain ⟨x1, ⟨kc, x2, x2'⟩, x3, x4⟩ := k3 i (by omega)
  rw [if_neg c1, cl_7, o_bind, if_neg (by rw [mI_le (by omega) (by omega)]; omega), cr_7 (by omega), x1, o_bind, o_ck (show isS (122 + 6 * i) from ⟨by omega, by omega, by omega⟩), if_neg c1, if_neg c2, if_neg n10, mr_19 (by omega), mr_20 (by omega)]
  cases hb : tb (σc.1 5 3) i
  · rw [if_pos (by rw [bit_no (by omega)]; exact hb), o_bind, o_ck (Or.inl rfl), ok_some, o_bind, o_bind]
    have hno : ¬ (s1.1 19 i ≠ 0 ∧ s1.1 20 i = mI C) := fun h => by rw [x3.mpr h] at hb; cases hb
    by_cases e0 : s1.1 19 i = 0
    · rw [if_pos e0, ok_some]
      exact ⟨rfl, hmono⟩
    · rw [if_neg e0, if_neg (fun he => hno ⟨e0, by rw [he]; exact k2⟩), ok_some]
      exact ⟨rfl, hmono⟩
  · obtain ⟨e0, e1⟩ := x3.mp hb
    obtain ⟨o1, o2⟩ := x4 hb
    rw [if_neg (by rw [bit_no (by omega), hb]; decide), ok_bind, ok_bind]
    refine ok_mono (c_copy (by omega) (by omega) (by omega) (by omega) (by omega) (by omega) (by omega) o1 b1 b3) (fun s hs => ?_)
    obtain ⟨f1, f2⟩ := hs
    rw [ok_some, o_ck (Or.inr rfl), ok_some, o_bind, o_bind, if_neg e0, if_pos (by rw [k2]; exact e1)]
    refine ok_mono (m_againLp (N := N) (o := 37 * i) (p := mI i) (s := s1) (by omega) (fun k _ => by rw [show (37 : Int32) = mI 37 from rfl, show mI 37 * mI i = mI (37 * i) from (Int32.ofNat_mul 37 i).symm, mI_add]) hN) (fun z hz => ?_)
    obtain ⟨z1, z2, z3, z4⟩ := hz
    refine ⟨z1.symm, M, F, ρ, hC.back (U := U) (U' := 0) (cS_eq f1 (fun a x y => p_Ia (by omega))) (fun a x y => by rw [p_Ia y]; exact f2.1 a (by omega)) (by rw [p_Is (by omega), f2.1 5 (by omega)]) (by rw [p_IL]; exact f2.2) o2 z3 z2 (p_II _ _ _ _) z4 hU hU12 (by omega), hTo.to ?_ ?_ ?_ ?_⟩
    · rw [p_Ia (by omega), f2.1 3 (by omega)]
    · rw [p_IL, f2.2]
    · rw [z3.2.2.1]
    · rw [z3.2.1 7 (by omega)]
theorem n_s44_ok (N j : Nat) (hN : 500 < N) : n_s44 N (Rel N j) (Rel N (j + 1)) := by
  intro σc σm h a1
  have h := h.thr
  refine two ?_
  unfold f_X12_keep f_X11_keep f_X3_keepUnder
  simp only [u_jn]
  generalize u_pI σm 0 8 0 = s1 at h ⊢
  have hmono := h.mono
  obtain ⟨M, F, ρ, hC, hTo⟩ := h
  obtain ⟨a1', a2, a3, a4, a5, a6⟩ := id hC
  obtain ⟨b1, b2, b3, b4, b5, b6, b7⟩ := id a1'
  obtain ⟨C, k1, k2, k3⟩ := id a5
  rw [m_in, o_bind]
  by_cases c1 : a1 < 0
  · rw [if_pos c1, o_bind, o_ck (Or.inl rfl), ok_some, if_pos c1, if_pos rfl, ok_some]
    exact ⟨rfl, hmono⟩
  by_cases c2 : 1 < a1
  · have c3 : mI 2 ≤ a1 := by
      have := Int32.lt_iff_toInt_lt.mp c2
      rw [show (1 : Int32).toInt = 1 from rfl] at this
      rw [Int32.le_iff_toInt_le, mI_int (by omega)]; omega
    rw [if_neg c1, cl_7, o_bind, if_pos c3, o_bind, o_ck (Or.inl rfl), ok_some, if_neg c1, if_pos c2, if_pos rfl, ok_some]
    exact ⟨rfl, hmono⟩
  obtain ⟨i, -, hi, rfl⟩ := rng (p := a1) (lo := 0) (hi := 1) (by omega) (by omega) c1 c2
  obtain ⟨x1, -, -, -⟩ := k3 i (by omega)
  rw [if_neg c1, cl_7, o_bind, if_neg (by rw [mI_le (by omega) (by omega)]; omega), cr_7 (by omega), x1, o_bind, o_ck (show isS (122 + 6 * i) from ⟨by omega, by omega, by omega⟩), ok_bind, ok_bind]
  refine ok_mono (c_copy (by omega) (by omega) (by omega) (by omega) (by omega) (by omega) (by omega) b6 b1 b3) (fun s hs => ?_)
  obtain ⟨f1, f2⟩ := hs
  have e5 : s.1 5 = σc.1 5 := f2.1 5 (by omega)
  have en : u_nar 3 1 = 1 := by decide
  rw [ok_some, o_ck (Or.inr rfl), ok_some, if_neg c1, if_neg c2, if_neg n10, mw_19 (by omega), o_bind, mw_20 (by omega), o_bind, en, p_Ia (show (0 : Nat) ≠ 19 by omega), k2, show (37 : Int32) = mI 37 from rfl, show mI 37 * mI i = mI (37 * i) from (Int32.ofNat_mul 37 i).symm, ok_bind]
  refine ok_mono (m_lay (zv (a := 1) (Or.inl rfl)) (show 18 < ZM.1 ∧ ZM.2.1 18 = .inl (0, 74) from ⟨by decide, rfl⟩) (by omega) (by omega) (by omega) (by omega) (by omega) hN) (fun w hw => ?_)
  obtain ⟨w1, w2⟩ := hw
  rw [ok_some]
  have hr := a6.r
  have hq := a6.q
  have cc : ∀ a, ¬ (122 + 6 * i ≤ a ∧ a < 122 + 6 * i + 6) → a ≠ 5 → (u_pI s 5 3 (s.1 5 3 ||| 1 <<< (mI i &&& 31))).1 a = σc.1 a := fun a x y => by rw [p_Ia y]; exact f2.1 a (by omega)
  have mm : ∀ c, c ≠ 18 → c ≠ 19 → c ≠ 20 → w.1 c = s1.1 c := fun c x y z => by rw [w2.1 c x, p_Ia z, p_Ia y]
  have e19 : ∀ k, w.1 19 k = if k = i then 1 else s1.1 19 k := fun k => by
    rw [w2.1 19 (by omega), p_Ia (by omega)]
    by_cases hk : k = i
    · rw [hk, p_II, if_pos rfl]
    · rw [p_Is hk, if_neg hk]
  have e20 : ∀ k, w.1 20 k = if k = i then mI C else s1.1 20 k := fun k => by
    rw [w2.1 20 (by omega)]
    by_cases hk : k = i
    · rw [hk, p_II, if_pos rfl]
    · rw [p_Is hk, if_neg hk, p_Ia (by omega)]
  refine ⟨rfl, M, F, ρ, ⟨a1'.to (by omega) (fun a x y => cc a (by omega) (by omega)) (mm 1 (by omega) (by omega) (by omega)) (mm 2 (by omega) (by omega) (by omega)) (by rw [mm 0 (by omega) (by omega) (by omega)]) (by rw [mm 0 (by omega) (by omega) (by omega)]), a2.to (by rw [cc 1 (by omega) (by omega)]) (cc 2 (by omega) (by omega)) (mm 3 (by omega) (by omega) (by omega)) (by rw [mm 0 (by omega) (by omega) (by omega)]), a3.to (cc 8 (by omega) (by omega)) (mm 16 (by omega) (by omega) (by omega)) (by rw [mm 0 (by omega) (by omega) (by omega)]) (by rw [mm 0 (by omega) (by omega) (by omega)]), a4.to (by omega) (fun a x y => cc a (by omega) (by omega)) (by rw [p_Is (by omega), e5]) (by rw [p_IL, f2.2]) (mm 9 (by omega) (by omega) (by omega)) (mm 2 (by omega) (by omega) (by omega)) (by rw [mm 0 (by omega) (by omega) (by omega)]), ?_, a6.to (fun r h => ⟨cc r (by have := hr r h; omega) (by have := hr r h; omega), cc (r + 1) (by have := hr r h; omega) (by have := hr r h; omega)⟩) (by rw [p_IL, f2.2]) (fun q h => mm q (by have := hq q h; omega) (by have := hq q h; omega) (by have := hq q h; omega)) (by rw [w2.2]; rfl) (by rw [w2.2]; rfl) (by rw [mm 0 (by omega) (by omega) (by omega)])⟩, hTo.to (by rw [cc 3 (by omega) (by omega)]) (by rw [p_IL, f2.2]) (by rw [w2.2]; rfl) (by rw [mm 0 (by omega) (by omega) (by omega)])⟩
  refine ⟨C, by omega, by rw [mm 0 (by omega) (by omega) (by omega)]; exact k2, fun i2 hi2 => ?_⟩
  obtain ⟨z1, ⟨kc, z2, z2'⟩, z3, z4⟩ := k3 i2 hi2
  rw [p_II, e5, e19, e20, mm 2 (by omega) (by omega) (by omega), tb_or, tb_1 (show i < 32 by omega) (show i2 < 32 by omega)]
  refine ⟨by rw [p_IL, f2.2]; exact z1, ?_, ?_, fun ht => ?_⟩
  · by_cases hk : i2 = i
    · rw [if_pos hk]; exact ⟨C, Nat.le_refl _, rfl⟩
    · rw [if_neg hk]; exact ⟨kc, z2, z2'⟩
  · by_cases hk : i2 = i
    · rw [if_pos hk, if_pos hk]; simp [hk]
    · rw [if_neg hk, if_neg hk]; simp only [hk, decide_false, Bool.or_false]; exact z3
  · by_cases hk : i2 = i
    · subst hk
      have hrow : ∀ j, j < 37 → s1.1 1 j = w.1 18 (37 * i2 + j) := fun j hj => by
        rw [w1, if_pos (by omega), show 37 * i2 + j - 37 * i2 = j by omega, p_Ia (by omega), p_Ia (by omega)]
      exact ⟨cS_congr b1 b3 hrow (fun _ _ => rfl) (cS_eq f1 (fun a x y => p_Ia (by omega))), vok_congr b1 b3 hrow (vok_le b7 (by omega))⟩
    · simp only [hk, decide_false, Bool.or_false] at ht
      obtain ⟨g1, g2⟩ := z4 ht
      have hrow : ∀ j, j < 37 → s1.1 18 (37 * i2 + j) = w.1 18 (37 * i2 + j) := fun j hj => by
        rw [w1, if_neg (by omega), p_Ia (by omega), p_Ia (by omega)]
      exact ⟨cS_congr b1 b3 hrow (fun _ _ => rfl) (cS_eq g1 (fun a x y => by have h0 := cc a (by omega) (by omega); rw [e5] at h0; exact h0)), vok_congr b1 b3 hrow (vok_le g2 (by omega))⟩
