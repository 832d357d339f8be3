/-! PURE LAYER: leaves, faces -/
/-- belief, glances, signs and the day alike -/
def agB (v w : Nat → Int32) : Prop := (∀ k, k < 16 → v k = w k) ∧ v 34 = w 34 ∧ v 35 = w 35
theorem agB.rfl {v : Nat → Int32} : agB v v := ⟨fun _ _ => Eq.refl _, Eq.refl _, Eq.refl _⟩
theorem agB.symm {v w : Nat → Int32} (h : agB v w) : agB w v := ⟨fun k hk => (h.1 k hk).symm, h.2.1.symm, h.2.2.symm⟩
theorem agB.trans {v w x : Nat → Int32} (h : agB v w) (g : agB w x) : agB v x := ⟨fun k hk => (h.1 k hk).trans (g.1 k hk), h.2.1.trans g.2.1, h.2.2.trans g.2.2⟩
theorem agB_pay {v e : Nat → Int32} {M F : Nat} {w : Int32} (hF : F ≤ 16) : agB v (partV (payV v e M) w F) := by
  refine ⟨fun k hk => ?_, ?_, ?_⟩ <;> (unfold partV; rw [if_neg (by omega)]; unfold payV; rw [if_neg (by omega)])
theorem th_agB {ρ : Rho} {v v' e : Nat → Int32} {M p : Nat} (hM : M ≤ 8) (hp : p < M) (h : agB v v') : th ρ v e M p = th ρ v' e M p := by
  have e1 : sMean v M p = sMean v' M p := by
    unfold sMean
    rw [h.1 (8 + p) (by omega), h.1 p (by omega), sBel_congr (v' := v') (fun i hi => ⟨h.1 i (by omega), rfl⟩)]
  have e2 : sSign v p = sSign v' p := by unfold sSign; rw [h.2.1]
  have e3 : askd v e M p = askd v' e M p := by
    funext k
    unfold askd
    rw [e1, e2, h.1 (8 + p) (by omega), h.1 p (by omega), h.2.2, sOut_congr (b' := v') (e' := e) (fun i hi => ⟨h.1 i (by omega), rfl⟩)]
  unfold th
  cases ρ with
  | none => simp only [e1, e2, h.1 p (show p < 16 by omega)]
  | some g => simp only [e3]
theorem agB.turn {ρ : Rho} {v v' e : Nat → Int32} {M : Nat} (hM : M ≤ 8) (h : agB v v') : agB (turnV ρ v e M) (turnV ρ v' e M) := by
  refine ⟨fun k hk => ?_, ?_, ?_⟩
  · unfold turnV
    by_cases hkM : k < M
    · rw [if_pos hkM, if_pos hkM]; exact th_agB hM hkM h
    · rw [if_neg hkM, if_neg hkM, if_neg (by omega), if_neg (by omega), if_neg (by omega), if_neg (by omega)]; exact h.1 k hk
  · unfold turnV
    rw [if_neg (by omega), if_pos (Eq.refl 34), if_neg (by omega), if_pos (Eq.refl 34)]
  · unfold turnV
    rw [if_neg (by omega), if_neg (by omega), if_pos (Eq.refl 35), if_neg (by omega), if_neg (by omega), if_pos (Eq.refl 35), h.2.2]
theorem agB.cross {ρ : Rho} {v v' e : Nat → Int32} {M F : Nat} (hM : M ≤ 8) (hF : F ≤ 16) (h : agB v v') : agB (turnV ρ v e M) (crossV ρ v' e M F) := agB.turn hM (h.trans (agB_pay hF))
theorem agB.sIn {v v' e : Nat → Int32} {M : Nat} (hM : M ≤ 8) (h : agB v v') : sIn v e M = sIn v' e M := sIn_congr (fun k hk => ⟨h.1 k (by omega), Eq.refl _⟩)
theorem n_s17_ok (N j : Nat) (hN : 500 < N) : n_s17 N (Rel N j) (Rel N (j + 1)) := by
  intro σc σm h a1
  have h := h.thr
  refine two ?_
  unfold f_X12_leaves f_X11_leaves
  simp only [u_jn]
  generalize u_pI σm 0 8 0 = s1 at h ⊢
  have hmono := h.mono
  obtain ⟨M, F, ρ, hC, hTo⟩ := h
  obtain ⟨b1, b2, b3, b4, b5, b6, b7⟩ := id hC.1
  have v1 : (1 : Nat) = 1 ∨ (1 : Nat) = 10 ∨ (1 : Nat) = 11 ∨ (1 : Nat) = 12 := by omega
  have v11 : (11 : Nat) = 1 ∨ (11 : Nat) = 10 ∨ (11 : Nat) = 11 ∨ (11 : Nat) = 12 := by omega
  rw [c_isPerson b6.2.2.2.2.2.2.2.1 b1, m_isMan b5 b1, o_bind, o_bind]
  cases hs1 : smb a1 M
  · simp only [Bool.false_eq_true, if_false, if_true, ok_some]
    exact ⟨trivial, hmono⟩
  obtain ⟨p, hp, rfl⟩ := smb_is hs1
  simp only [if_true, i10, if_false]
  obtain ⟨r, hr, hr2⟩ := hC.hasR
  rw [ok_bind]
  refine ok_mono (TC.start hC fr.rfl) (fun s hs => ?_)
  rw [ok_swap, ok_bind]
  refine ok_mono (TM.start (Or.inl rfl) mfr.rfl hN) (fun t ht => ?_)
  rw [ok_swap]
  refine lpr22 (fun k y1 y2 z1 z2 => (∃ w w', TC M F σc s1 w y1 ∧ TM s1 11 w' z1 ∧ agB w w' ∧ vok (600 * j + k) M F w') ∧ y2 = mI (k + 1) ∧ z2 = mI (k + 1)) 60 N _ _ _ _ (by omega) ?_ ⟨⟨s1.1 1, s1.1 1, hs, ht.1, agB.rfl, b7⟩, rfl, rfl⟩
  rintro k y1 y2 z1 z2 rec rec2 hk ⟨⟨w, w', i1, i2, i3, i4⟩, rfl, rfl⟩ hrec
  have c60 : (60 : Int32) = mI 60 := rfl
  unfold b_X11_leaves_26 b_X12_leaves_29
  by_cases hlt : k < 60
  · rw [if_neg (by rw [c60, mI_lt (by omega) (by omega)]; omega), i1.ru hr, o_bind, o_ck hr2, ok_bind]
    refine ok_mono (i1.turn hC hr hN) (fun s2 hs2 => ?_)
    obtain ⟨-, g1⟩ := hs2
    rw [ok_swap, if_neg (by rw [c60, mI_lt (by omega) (by omega)]; omega), ok_bind]
    refine ok_mono (i2.cross (Or.inl rfl) hC i4 hN) (fun t2 ht2 => ?_)
    obtain ⟨-, g2⟩ := ht2
    have g3 := i3.cross (ρ := ρ) (e := s1.1 2) (F := F) b1 b3
    generalize turnV ρ w (s1.1 2) M = u at g1 g3
    generalize hu' : crossV ρ w' (s1.1 2) M F = u' at g2 g3
    have q1 : s2.2.1 40 p = u p := g1.1.1 p hp
    have q2 : s2.2.1 42 p = s1.1 2 p := g1.1.2.2.1 p hp
    have q3 : s2.2.1 34 p = s1.1 1 p := by rw [g1.2.1 34 (by unfold scr; omega)]; exact b6.1 p hp
    have q4 : s2.2.1 36 p = s1.1 2 p := by rw [g1.2.1 36 (by unfold scr; omega)]; exact b6.2.2.1 p hp
    have q5 : t2.2.1 11 p = u p := by rw [g2.1 p (by omega)]; exact (g3.1 p (by omega)).symm
    have q6 : t2.2.1 2 p = s1.1 2 p := by rw [g2.edg]
    have q7 : t2.2.1 1 p = s1.1 1 p := by rw [g2.2.1 1 (by omega) (by unfold scrM; omega)]
    rw [m_isIn v11 (by omega), m_isIn v1 (by omega), q5, q6, q7, o_bind, o_bind, ok_swap, c_isIn (by omega) (by omega) (by omega) (by omega), c_isIn (by omega) (by omega) (by omega) (by omega)]
    show ok ((some (if s2.2.1 40 p < s2.2.1 42 p then (0 : Int32) else 1)).bind fun v10 => (some (if s2.2.1 34 p < s2.2.1 36 p then (0 : Int32) else 1)).bind fun v11 => _) _
    rw [q1, q2, q3, q4, o_bind, o_bind]
    by_cases hx : (if u p < s1.1 2 p then (0 : Int32) else 1) = (if s1.1 1 p < s1.1 2 p then (0 : Int32) else 1)
    · rw [if_pos hx, if_pos hx]
      simp only [u_jn, mI_succ]
      exact hrec _ _ _ _ hlt ⟨⟨u, u', g1, g2, g3, by rw [← hu']; exact vok_cross b1 b3 i4⟩, rfl, rfl⟩
    · rw [if_neg hx, if_neg hx, cr_40 (by omega), o_bind, c_one, o_bind, ok_some]
      simp only [u_jn]
      rw [vr v11 (by omega), o_bind, m_tell0, o_bind, ok_some, p_Ia (by omega), q1, q5]
      exact ⟨rfl, rel_look1 hC g1.2 g2.2 _⟩
  · have hkn : k = 60 := by omega
    subst hkn
    rw [if_pos (by rw [c60, mI_lt (by omega) (by omega)]; omega), ok_some, if_pos (by rw [c60, mI_lt (by omega) (by omega)]; omega), ok_some]
    exact ⟨rfl, rel_look0 hC hTo i1.2 i2.2⟩
/-- two face to face -/
def faceV (v : Nat → Int32) (p q : Nat) : Nat → Int32 := upV (upV v (8 + p) (v (8 + p) ||| (1 <<< (mI q &&& 31)))) (8 + q) (v (8 + q) ||| (1 <<< (mI p &&& 31)))
theorem c_face {N j M F p q : Nat} {ρ : Rho} {σc σm s : uS} (hC : RelC N j M F ρ σc σm) (hf : fr scr σc s) (hp : p < M) (hq : q < M) (hpq : p ≠ q) (hN : 500 < N) : ok (f_X11_howManyFaceToFace N s (mI p) (mI q)) (fun z => z.1 = bc (sIn (crossN ρ (σm.1 2) M F (faceV (σm.1 1) p q) 2) (σm.1 2) M) ∧ fr scr σc z.2) := by
  have b1 := hC.1.1
  have b3 := hC.1.2.2.1
  have b7 := hC.1.2.2.2.2.2.2
  unfold f_X11_howManyFaceToFace
  rw [ok_bind]
  refine ok_mono (TC.start hC hf) (fun s2 hs => ?_)
  obtain ⟨r, hr, hr2⟩ := hC.hasR
  have e1 : s2.1 43 p = σm.1 1 (8 + p) := hs.1.2.1 p hp
  have e2 : s2.1 43 q = σm.1 1 (8 + q) := hs.1.2.1 q hq
  have hS : TC M F σc σm (faceV (σm.1 1) p q) (u_pI (u_pI s2 43 p (σm.1 1 (8 + p) ||| (1 <<< (mI q &&& 31)))) 43 q (σm.1 1 (8 + q) ||| (1 <<< (mI p &&& 31)))) := ⟨cS_up b1 b3 (cS_up b1 b3 hs.1 (Or.inr (Or.inr (Or.inl ⟨rfl, by omega, rfl⟩)))) (Or.inr (Or.inr (Or.inl ⟨rfl, by omega, rfl⟩))), (hs.2.pI (by unfold scr; omega)).pI (by unfold scr; omega)⟩
  have hv : vok (600 * j) M F (faceV (σm.1 1) p q) := vok_dg b1 b3 (vok_dg b1 b3 b7 (by omega) (Or.inr (by omega))) (by omega) (Or.inr (by omega))
  rw [cr_43 (by omega), o_bind, e1, cw_43 (by omega), o_bind, cr_43 (by omega), o_bind, p_Is (Ne.symm hpq), e2, cw_43 (by omega), o_bind, hS.ru hr, o_bind, o_ck hr2, ok_bind]
  refine ok_mono (hS.cross (n := 2) hC hr hv (by omega) hN) (fun z hz => ?_)
  rw [hz.2.many b1 hN, o_bind, ok_some]
  exact ⟨rfl, hz.2.2⟩
theorem tb_all_lt {x : Int32} {M p : Nat} (hM : M ≤ 8) (hp : p < M) : tb (x &&& sAll M) p = tb x p := by rw [tb_and, tb_all (by omega) (by omega)]; simp [hp]
theorem m1_le (n : Nat) (h : n < 1000000) : ¬ mI n ≤ -2 ∧ (-1 : Int32) < mI n := by
  constructor
  · rw [Int32.le_iff_toInt_le, mI_int h]; show ¬ (n : Int) ≤ -2; omega
  · rw [Int32.lt_iff_toInt_lt, mI_int h]; show (-1 : Int) < n; omega
def fcI (y2 y3 y4 z2 z3 z4 : Int32) : Prop := (y2 = -2 ∧ z2 = -1) ∨ ∃ n, n < 1000 ∧ y2 = mI n ∧ z2 = mI n ∧ y3 = z3 ∧ y4 = z4
theorem n_s24_ok (N j : Nat) (hN : 500 < N) : n_s24 N (Rel N j) (Rel N (j + 1)) := by
  intro σc σm h
  have h := h.thr
  refine two ?_
  unfold f_X12_faces f_X11_faces
  simp only [u_jn]
  generalize u_pI σm 0 8 0 = s1 at h ⊢
  obtain ⟨M, F, ρ, hC, hTo⟩ := h
  obtain ⟨b1, b2, b3, b4, b5, b6, b7⟩ := id hC.1
  have v1 : (1 : Nat) = 1 ∨ (1 : Nat) = 10 ∨ (1 : Nat) = 11 ∨ (1 : Nat) = 12 := by omega
  have v11 : (11 : Nat) = 1 ∨ (11 : Nat) = 10 ∨ (11 : Nat) = 11 ∨ (11 : Nat) = 12 := by omega
  refine lpr55 (fun k y1 y2 y3 y4 y5 z1 z2 z3 z4 z5 => fr scr σc y1 ∧ mfr scrM scrT s1 z1 ∧ fcI y2 y3 y4 z2 z3 z4 ∧ y5 = mI k ∧ z5 = mI k) M N _ _ _ _ _ _ _ _ _ _ (by omega) ?_ ⟨fr.rfl, mfr.rfl, Or.inl ⟨rfl, rfl⟩, rfl, rfl⟩
  rintro p y1 y2 y3 y4 y5 z1 z2 z3 z4 z5 rec rec2 hp ⟨i1, i2, i3, rfl, rfl⟩ hrec
  unfold b_X11_faces_10 b_X12_faces_14
  have e8 : y1.1 32 8 = mI M := by rw [i1.1 32 (by unfold scr; omega)]; exact b6.2.2.2.2.2.2.2.1
  have e2 : z1.1 0 2 = mI M := by rw [i2.2.1 2 (nT (by omega))]; exact b5
  rw [e8, e2]
  by_cases hlt : p < M
  · rw [if_neg (by rw [mI_le (by omega) (by omega)]; omega), if_neg (by rw [mI_le (by omega) (by omega)]; omega)]
    simp only [u_jn, mI_succ]
    refine lpr55 (fun k y1 y2 y3 y4 y5 z1 z2 z3 z4 z5 => fr scr σc y1 ∧ mfr scrM scrT s1 z1 ∧ fcI y2 y3 y4 z2 z3 z4 ∧ y5 = mI (p + 1 + k) ∧ z5 = mI (p + 1 + k)) (M - (p + 1)) N _ _ _ _ _ _ _ _ _ _ (by omega) ?_ ⟨i1, i2, i3, rfl, rfl⟩
    rintro k y1 y2 y3 y4 y5 z1 z2 z3 z4 z5 reci reci2 hk ⟨i1, i2, i3, rfl, rfl⟩ hreci
    unfold b_X11_faces_28 b_X12_faces_29
    have e8 : y1.1 32 8 = mI M := by rw [i1.1 32 (by unfold scr; omega)]; exact b6.2.2.2.2.2.2.2.1
    have e2 : z1.1 0 2 = mI M := by rw [i2.2.1 2 (nT (by omega))]; exact b5
    rw [e8, e2]
    by_cases hlt2 : p + 1 + k < M
    · generalize hq : p + 1 + k = q at hlt2
      have hs1 : y1.1 37 p = s1.1 1 (8 + p) := by rw [i1.1 37 (by unfold scr; omega)]; exact b6.2.1 p hlt
      have hs2 : y1.1 37 q = s1.1 1 (8 + q) := by rw [i1.1 37 (by unfold scr; omega)]; exact b6.2.1 q hlt2
      have ht : z1.1 1 = s1.1 1 := i2.1 1 (by omega) (by unfold scrM; omega)
      rw [if_neg (by rw [mI_le (by omega) (by omega)]; omega), if_neg (by rw [mI_le (by omega) (by omega)]; omega), m_sees v1 e2 (by omega), m_sees v1 e2 (by omega), ht]
      have hsee : f_X11_seeEachOther N y1 (mI p) (mI q) = some (if tb (s1.1 1 (8 + p)) q = true ∧ tb (s1.1 1 (8 + q)) p = true then 1 else 0) := by
        unfold f_X11_seeEachOther
        rw [c_sees (by omega) (by omega) (by omega) (by omega) (by omega), c_sees (by omega) (by omega) (by omega) (by omega) (by omega)]
        show ((some (if tb (y1.1 37 p) q = true then (1 : Int32) else 0)).bind fun v1 => u_jn (some 0) fun J => if v1 = 0 then J else (some (if tb (y1.1 37 q) p = true then (1 : Int32) else 0)).bind fun v3 => if v3 = 0 then J else some 1) = _
        rw [hs1, hs2]
        cases tb (s1.1 1 (8 + p)) q <;> cases tb (s1.1 1 (8 + q)) p <;> rfl
      rw [hsee]
      simp only [o_bind, u_jn, mI_succ, m_has (N := N) (σ := z1) _ (show q < 32 by omega), m_has (N := N) (σ := z1) _ (show p < 32 by omega), tb_all_lt b1 hlt, tb_all_lt b1 hlt2]
      have hrecq : ∀ y1' y2' y3' y4' z1' z2' z3' z4', fr scr σc y1' → mfr scrM scrT s1 z1' → fcI y2' y3' y4' z2' z3' z4' → ok (reci y1' y2' y3' y4' (mI (q + 1))) (fun a => ok (reci2 z1' z2' z3' z4' (mI (q + 1))) (fun b => a.1 = b.1 ∧ Rel N (j + 1) a.2 b.2)) := by
        intro y1' y2' y3' y4' z1' z2' z3' z4' g1 g2 g3
        exact hreci _ _ _ _ _ _ _ _ _ _ (by omega) ⟨g1, g2, g3, by rw [show p + 1 + (k + 1) = q + 1 by omega], by rw [show p + 1 + (k + 1) = q + 1 by omega]⟩
      by_cases hb : tb (s1.1 1 (8 + p)) q = true ∧ tb (s1.1 1 (8 + q)) p = true
      · have hle : (-2 : Int32) ≤ y2 := by
          rcases i3 with ⟨rfl, -⟩ | ⟨n, hn, rfl, -⟩
          · exact Int32.le_refl _
          · rw [Int32.le_iff_toInt_le, mI_int (by omega)]; show (-2 : Int) ≤ n; omega
        simp only [if_pos hb, hb.1, hb.2, i10, if_false, if_true, if_pos hle]
        exact hrecq _ _ _ _ _ _ _ _ i1 i2 i3
      · have href : ∀ (X Y : Option (Int32 × uS)), (if (if tb (s1.1 1 (8 + p)) q = true then (1 : Int32) else 0) = 0 then X else if (if tb (s1.1 1 (8 + q)) p = true then (1 : Int32) else 0) = 0 then X else Y) = X := by
          intro X Y
          by_cases h1 : tb (s1.1 1 (8 + p)) q = true
          · have h2 : ¬ tb (s1.1 1 (8 + q)) p = true := fun h2 => hb ⟨h1, h2⟩
            simp only [h1, h2, if_true, if_false, i10]
            simp
          · simp only [h1, if_false, if_true]
            simp
        rw [href, if_pos (by rw [if_neg hb]), ok_bind]
        refine ok_mono (c_face hC i1 hlt hlt2 (by omega) hN) (fun s2 hs2 => ?_)
        rw [ok_swap, ok_bind]
        refine ok_mono (TM.start (Or.inl rfl) i2 hN) (fun t2 ht2 => ?_)
        have f1 : t2.1 11 (8 + p) = s1.1 1 (8 + p) := ht2.1.1 (8 + p) (by omega)
        have f2 : t2.1 11 (8 + q) = s1.1 1 (8 + q) := ht2.1.1 (8 + q) (by omega)
        rw [mI_8, mI_8, vr v11 (by omega), o_bind, f1, vw v11 (by omega), o_bind, vr v11 (by omega), o_bind, p_Is (by omega), f2, vw v11 (by omega), o_bind, ok_bind]
        have hT : TM s1 11 (faceV (s1.1 1) p q) (u_pI (u_pI t2 11 (8 + p) (s1.1 1 (8 + p) ||| (1 <<< (mI q &&& 31)))) 11 (8 + q) (s1.1 1 (8 + q) ||| (1 <<< (mI p &&& 31)))) := by
          refine ⟨fun k hk => ?_, (ht2.1.2.pI (by omega) (by unfold scrM; omega)).pI (by omega) (by unfold scrM; omega)⟩
          unfold faceV
          by_cases h1 : k = 8 + q
          · rw [h1, p_II, upV_eq]
          · rw [p_Is h1, upV_ne h1]
            by_cases h2 : k = 8 + p
            · rw [h2, p_II, upV_eq]
            · rw [p_Is h2, upV_ne h2]; exact ht2.1.1 k hk
        have hv : vok (600 * j) M F (faceV (s1.1 1) p q) := vok_dg b1 b3 (vok_dg b1 b3 b7 (by omega) (Or.inr (by omega))) (by omega) (Or.inr (by omega))
        refine ok_mono (hT.crosses (n := 2) (Or.inl rfl) hC hv (by omega) hN) (fun t3 ht3 => ?_)
        obtain ⟨-, ht3, -⟩ := ht3
        rw [ht3.inB (Or.inl rfl) hC hN, o_bind, bc_f, o_bind, ok_swap, hs2.1]
        have hbc := bc_cnt (lo8_sIn (b := crossN ρ (s1.1 2) M F (faceV (s1.1 1) p q) 2) (e := s1.1 2) b1)
        have hcl := cnt_le (sIn (crossN ρ (s1.1 2) M F (faceV (s1.1 1) p q) 2) (s1.1 2) M) 8
        rw [hbc]
        generalize cnt (sIn (crossN ρ (s1.1 2) M F (faceV (s1.1 1) p q) 2) (s1.1 2) M) 8 = X at hcl
        rcases i3 with ⟨rfl, rfl⟩ | ⟨n, hn, rfl, rfl, rfl, rfl⟩
        · rw [if_neg (m1_le X (by omega)).1, if_pos (m1_le X (by omega)).2]
          exact hrecq _ _ _ _ _ _ _ _ hs2.2 ht3.2 (Or.inr ⟨X, by omega, rfl, rfl, rfl, rfl⟩)
        · by_cases hx : X ≤ n
          · rw [if_pos (by rw [mI_le (by omega) (by omega)]; exact hx), if_neg (by rw [mI_lt (by omega) (by omega)]; omega)]
            exact hrecq _ _ _ _ _ _ _ _ hs2.2 ht3.2 (Or.inr ⟨n, hn, rfl, rfl, rfl, rfl⟩)
          · rw [if_neg (by rw [mI_le (by omega) (by omega)]; exact hx), if_pos (by rw [mI_lt (by omega) (by omega)]; omega)]
            exact hrecq _ _ _ _ _ _ _ _ hs2.2 ht3.2 (Or.inr ⟨X, by omega, rfl, rfl, rfl, rfl⟩)
    · rw [if_pos (by rw [mI_le (by omega) (by omega)]; omega), if_pos (by rw [mI_le (by omega) (by omega)]; omega)]
      exact hrec _ _ _ _ _ _ _ _ _ _ hlt ⟨i1, i2, i3, rfl, rfl⟩
  · rw [if_pos (by rw [mI_le (by omega) (by omega)]; omega), if_pos (by rw [mI_le (by omega) (by omega)]; omega)]
    rcases i3 with ⟨rfl, rfl⟩ | ⟨n, hn, rfl, rfl, rfl, rfl⟩
    · dsimp only
      rw [if_pos (show (-2 : Int32) < 0 by decide), if_pos rfl, ok_some, ok_some]
      exact ⟨rfl, rel_look0 hC hTo i1 i2⟩
    · dsimp only
      rw [if_neg (mI_n0 (k := n) (by omega)), if_neg (fun he => by have := (m1_le n (by omega)).2; rw [he] at this; exact absurd this (by decide)), c_two, o_bind, ok_some]
      simp only [u_jn]
      rw [m_tell0, o_bind, m_tell1, o_bind, ok_some]
      exact ⟨rfl, rel_look2 hC i1 i2 _ _⟩
