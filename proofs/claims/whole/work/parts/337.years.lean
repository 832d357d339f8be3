/-! PURE LAYER: years -/
theorem mI_mul (a b : Nat) : mI a * mI b = mI (a * b) := (Int32.ofNat_mul a b).symm
theorem mI_div {a b : Nat} (ha : a < 1000000) (hb : b < 1000000) (h0 : 0 < b) : mI a / mI b = mI (a / b) := by
  apply Int32.toInt_inj.mp
  have hd : a / b ≤ a := Nat.div_le_self _ _
  have hne : mI b ≠ -1 := fun h => by
    have := congrArg Int32.toInt h
    rw [mI_int hb] at this
    have h1 : (-1 : Int32).toInt = -1 := rfl
    omega
  rw [Int32.toInt_div_of_ne_right _ _ hne, mI_int ha, mI_int hb, mI_int (by omega), Int.tdiv_eq_ediv_of_nonneg (by omega)]
  omega
theorem mI_rem {a b : Nat} (ha : a < 1000000) (hb : b < 1000000) (h0 : 0 < b) : mI a - mI a / mI b * mI b = mI (a % b) := by
  have h1 := Nat.mod_add_div a b
  rw [Nat.mul_comm] at h1
  rw [mI_div ha hb h0, mI_mul, mI_sub (by omega) ha]
  congr 1
  omega
theorem ushr16 (x : Int32) : ∃ n, n < 65536 ∧ u_ushr x 16 = mI n := by
  have e : (u_ushr x 16).toBitVec = x.toBitVec >>> 16 := rfl
  refine ⟨(x.toBitVec >>> 16).toNat, ?_, ?_⟩
  · rw [BitVec.toNat_ushiftRight]
    have := x.toBitVec.isLt
    rw [Nat.shiftRight_eq_div_pow]
    omega
  · apply Int32.toBitVec_inj.mp
    rw [e]
    show _ = BitVec.ofNat 32 _
    rw [BitVec.ofNat_toNat, BitVec.setWidth_eq]
/-- what is drawn next -/
def drw (x : Int32) : Int32 := x * 1103515245 + 12345
theorem draw_lt {x : Int32} {m : Nat} (hm0 : 0 < m) (hm : m < 1000) : ∃ d, d < m ∧ u_ushr x 16 - u_ushr x 16 / mI m * mI m = mI d := by
  obtain ⟨n, hn, e⟩ := ushr16 x
  exact ⟨n % m, Nat.mod_lt _ hm0, by rw [e, mI_rem (by omega) (by omega) hm0]⟩
theorem c_draw {N m : Nat} {s : uS} (hm0 : 0 < m) (hm : m < 1000) : f_X1_draw N s (mI m) = some (u_ushr (drw (s.1 21 0)) 16 - u_ushr (drw (s.1 21 0)) 16 / mI m * mI m, u_pI s 21 0 (drw (s.1 21 0))) := by
  unfold f_X1_draw
  simp only [jn_eq]
  rw [if_neg (rnle 0 0 rfl (by omega) (by omega) hm0), o_ck (by rw [show (0 : Int32) = mI 0 from rfl, mI_eq (by omega) (by omega)]; omega), p_II]
  rfl
theorem m_draw {N m : Nat} {t : uS} (hm0 : 0 < m) (hm : m < 1000) : f_X12_draw N t (mI m) = some (u_ushr (drw (t.1 0 32)) 16 - u_ushr (drw (t.1 0 32)) 16 / mI m * mI m, u_pI t 0 32 (drw (t.1 0 32))) := by
  unfold f_X12_draw
  simp only [jn_eq]
  rw [o_ck (by rw [show (0 : Int32) = mI 0 from rfl, mI_eq (by omega) (by omega)]; omega), p_II]
  rfl
section YR
variable {N j M F B : Nat} {ρ : Rho} {σc σm s t : uS} {v : Nat → Int32}
theorem TC.p21 {x : Int32} (h : TC M F σc σm v s) : TC M F σc σm v (u_pI s 21 0 x) := ⟨cS_eq h.1 (fun a _ _ => p_Ia (by omega)), h.2.pI (by unfold scr; omega)⟩
theorem TM.p32 {x : Int32} (h : TM σm 11 v t) : TM σm 11 v (u_pI t 0 32 x) := ⟨fun k hk => by rw [p_Ia (by omega)]; exact h.1 k hk, h.2.p0 (Or.inr rfl)⟩
theorem TM.up {k : Nat} {x : Int32} (h : TM σm 11 v t) : TM σm 11 (upV v k x) (u_pI t 11 k x) := ⟨fun q hq => by
  by_cases hqk : q = k
  · rw [hqk, p_II, upV_eq]
  · rw [p_Is hqk, upV_ne hqk]; exact h.1 q hq, h.2.pI (by omega) (by unfold scrM; omega)⟩
end YR
theorem n_s43_ok (N j : Nat) (hN : 500 < N) : n_s43 N (Rel N j) (Rel N (j + 1)) := by
  intro σc σm h a1 a2
  have h := h.thr
  refine two ?_
  unfold f_X12_years f_X11_years
  simp only [jn_eq]
  generalize u_pI σm 0 8 0 = s1 at h ⊢
  have hmono := h.mono
  obtain ⟨M, F, ρ, hC, hTo⟩ := h
  obtain ⟨b1, b2, b3, b4, b5, b6, b7⟩ := id hC.1
  have v11 : (11 : Nat) = 1 ∨ (11 : Nat) = 10 ∨ (11 : Nat) = 11 ∨ (11 : Nat) = 12 := by omega
  rw [m_in, o_bind]
  by_cases c1 : a2 < 1
  · rw [if_pos c1, if_pos c1, if_pos rfl, ok_some, ok_some]
    exact ⟨rfl, hmono⟩
  by_cases c2 : 60 < a2
  · rw [if_neg c1, if_neg (Int32.not_le.mpr c2), if_neg c1, if_pos c2, if_pos rfl, ok_some, ok_some]
    exact ⟨rfl, hmono⟩
  obtain ⟨n, -, hn, rfl⟩ := rng (p := a2) (lo := 1) (hi := 60) (by omega) (by omega) c1 c2
  rw [if_neg c1, if_pos (Int32.not_lt.mp c2), if_neg c1, if_neg c2, if_neg n10, ok_bind]
  obtain ⟨r, hr, hr2⟩ := hC.hasR
  refine ok_mono (TC.start hC fr.rfl) (fun s hs => ?_)
  rw [ok_swap, ok_bind]
  refine ok_mono (TM.start (Or.inl rfl) ((mfr.rfl (S := scrM) (T := scrT) (σ := s1)).p0 (k := 32) (v := a1) (Or.inr rfl)) hN) (fun t ht => ?_)
  have e32 : t.1 0 32 = a1 := by rw [ht.2 0 (by omega), p_II]
  rw [ok_swap]
  refine lpr22 (fun k s x t y => k ≤ n ∧ x = mI k ∧ y = mI k ∧ s.1 21 0 = t.1 0 32 ∧ ∃ v, vok (600 * j + k) M F v ∧ TC M F σc s1 v s ∧ TM s1 11 v t) n N _ _ _ _ (by omega) ?_ ⟨by omega, rfl, rfl, by rw [p_II, e32], _, b7, hs.p21, ht.1⟩
  clear hs ht e32 s t
  rintro k s x t y rec rec2 hk ⟨-, rfl, rfl, ed, v, hv, hs, ht⟩ hrec
  unfold b_X11_years_34 b_X12_years_36
  by_cases hlt : k < n
  · rw [if_neg (mnle (by omega) (by omega) hlt), if_neg (mnle (by omega) (by omega) hlt)]
    unfold f_X11_passYear
    simp only [jn_eq, mI_succ]
    have goon : ∀ s' t' v', vok (600 * j + (k + 1)) M F v' → s'.1 21 0 = t'.1 0 32 → TC M F σc s1 v' s' → TM s1 11 v' t' → ok (rec s' (mI (k + 1))) (fun a => ok (rec2 t' (mI (k + 1))) (fun b => a.1 = b.1 ∧ Rel N (j + 1) a.2 b.2)) := fun s' t' v' g1 g2 g3 g4 => hrec _ _ _ _ hlt ⟨by omega, rfl, rfl, g2, v', g1, g3, g4⟩
    obtain ⟨d, hd, ed1⟩ := draw_lt (x := drw (t.1 0 32)) (m := 4) (by omega) (by omega)
    rw [show (4 : Int32) = mI 4 from rfl, c_draw (by omega) (by omega), m_draw (by omega) (by omega), ed, ed1, o_bind, o_bind]
    have hs1 := hs.p21 (x := drw (t.1 0 32))
    have ht1 := ht.p32 (x := drw (t.1 0 32))
    have ed2 : (u_pI s 21 0 (drw (t.1 0 32))).1 21 0 = (u_pI t 0 32 (drw (t.1 0 32))).1 0 32 := by rw [p_II, p_II]
    generalize u_pI s 21 0 (drw (t.1 0 32)) = sA at hs1 ed2 ⊢
    generalize u_pI t 0 32 (drw (t.1 0 32)) = tA at ht1 ed2 ⊢
    dsimp only
    by_cases h2 : d < 2
    · rw [if_neg (lnle 2 2 rfl (by omega) (by omega) h2), if_neg (lnle 2 2 rfl (by omega) (by omega) h2), hs1.ru hr, o_bind, o_ck hr2]
      have hcR := hC.cR hr
      have hr3 := hcR.1
      obtain ⟨z, hz0, hz1, hz2, hz3⟩ := c_cross (n := 1) (by omega) (by omega) (by omega) (hcR.fr hs1.2 (by unfold scr; omega) (by unfold scr; omega)) hs1.1 hv b1 b3 (by omega) hN
      obtain ⟨w, hw0, hw1, hw2, hw3⟩ := m_goCrossing v11 (ht1.men hC) (ht1.fur hC) b1 b3 ht1.1 hv (ht1.mR hC) hN
      rw [ht1.edg] at hw2
      have hz0 : f_X7_cross N sA 38 1 r = some z := hz0
      rw [hz0, hw0]
      simp only [o_bind]
      rw [if_pos (rlt 2 2 rfl (by omega) (by omega) h2)]
      refine goon _ _ _ (vok_cross b1 b3 hv) ?_ ⟨hz2, (hs1.2.trans hz3).mono (fun a ha => ?_)⟩ ⟨hw2, (ht1.2.trans hw3).mono (fun c hc => ?_) (fun c hc => hc.elim id T0_T)⟩
      · rw [hz3.1 21 (by omega), hw3.2.1 32 (by unfold T0; omega)]; exact ed2
      · rcases ha with ha | ha
        · exact ha
        · unfold scr; omega
      · rcases hc with hc | hc
        · exact hc
        · unfold scrM; omega
    · have n2 : ¬ mI d < 2 := rnlt 2 2 rfl (by omega) (by omega) (by omega)
      rw [if_pos (lle 2 2 rfl (by omega) (by omega) (by omega)), if_pos (lle 2 2 rfl (by omega) (by omega) (by omega)), if_neg n2, hs1.1.2.2.2.2.2.2.2.1, ht1.men hC]
      have hv1 := vok_le (B' := 600 * j + (k + 1)) hv (by omega)
      by_cases hM0 : M = 0
      · rw [if_pos (rle 0 0 rfl (by omega) (by omega) (by omega)), if_pos (by rw [hM0]; rfl), o_bind]
        exact goon _ _ _ hv1 ed2 hs1 ht1
      · have hMp : 0 < M := by omega
        obtain ⟨p, hp, ep⟩ := draw_lt (x := drw (tA.1 0 32)) (m := M) (by omega) (by omega)
        rw [if_neg (rnle 0 0 rfl (by omega) (by omega) hMp), if_neg (show ¬ mI M = 0 by rw [show (0 : Int32) = mI 0 from rfl, mI_eq (by omega) (by omega)]; exact hM0), c_draw hMp (by omega), m_draw hMp (by omega), ed2, ep, o_bind, o_bind]
        have hs2 := hs1.p21 (x := drw (tA.1 0 32))
        have ht2 := ht1.p32 (x := drw (tA.1 0 32))
        have ed3 : (u_pI sA 21 0 (drw (tA.1 0 32))).1 21 0 = (u_pI tA 0 32 (drw (tA.1 0 32))).1 0 32 := by rw [p_II, p_II]
        generalize u_pI sA 21 0 (drw (tA.1 0 32)) = sB at hs2 ed3 ⊢
        generalize u_pI tA 0 32 (drw (tA.1 0 32)) = tB at ht2 ed3 ⊢
        dsimp only
        by_cases h3 : d = 2
        · have e2 : mI d = 2 := by rw [h3]; rfl
          have e3 : ¬ mI d = 3 := by rw [e2]; decide
          rw [if_pos e2, if_pos e2, o_bind, vr34 v11, o_bind, vw34 v11, o_bind, if_neg e3, hs2.1.2.2.2.2.2.2.2.2.1, ht2.1 34 (by omega)]
          refine goon _ _ _ (vok_sig b1 b3 hv1 (lo8_or hv1.2.2.2.1 (lo8_1 (by omega)))) ?_ ⟨cS_up b1 b3 hs2.1 (Or.inl ⟨rfl, Or.inr (Or.inr (Or.inl ⟨rfl, rfl⟩))⟩), hs2.2.pI (by unfold scr; omega)⟩ ht2.up
          rw [p_Ia (by omega), p_Ia (by omega)]; exact ed3
        · have e2 : ¬ mI d = 2 := by rw [show (2 : Int32) = mI 2 from rfl, mI_eq (by omega) (by omega)]; exact h3
          have e3 : mI d = 3 := by rw [show d = 3 by omega]; rfl
          obtain ⟨q, hq, eq⟩ := draw_lt (x := drw (tB.1 0 32)) (m := M) (by omega) (by omega)
          rw [if_neg e2, if_neg e2, if_pos e3, hs2.1.2.2.2.2.2.2.2.1, ht2.men hC, c_draw hMp (by omega), m_draw hMp (by omega), ed3, eq, o_bind, o_bind]
          have hs3 := hs2.p21 (x := drw (tB.1 0 32))
          have ht3 := ht2.p32 (x := drw (tB.1 0 32))
          have ed4 : (u_pI sB 21 0 (drw (tB.1 0 32))).1 21 0 = (u_pI tB 0 32 (drw (tB.1 0 32))).1 0 32 := by rw [p_II, p_II]
          generalize u_pI sB 21 0 (drw (tB.1 0 32)) = sD at hs3 ed4 ⊢
          generalize u_pI tB 0 32 (drw (tB.1 0 32)) = tD at ht3 ed4 ⊢
          dsimp only
          have t8 := hs3.1.2.2.2.2.2.2.2.1
          unfold f_X7_turnEyes
          rw [c_isPerson t8 b1, c_isPerson t8 b1, smb_mI (by omega), smb_mI (by omega), decide_eq_true hp, decide_eq_true hq]
          simp only [if_true, o_bind, i10, if_false]
          by_cases hpq : q = p
          · rw [if_pos (show mI p = mI q by rw [hpq]), if_pos (show mI q = mI p by rw [hpq]), o_bind, o_bind]
            exact goon _ _ _ hv1 ed4 hs3 ht3
          · rw [if_neg (show ¬ mI p = mI q by rw [mI_eq (by omega) (by omega)]; omega), if_neg (show ¬ mI q = mI p by rw [mI_eq (by omega) (by omega)]; omega), sr_5 (by omega) (by omega) (by omega) (by omega), o_bind, sw_5 (by omega) (by omega) (by omega) (by omega), o_bind]
            unfold f_X12_goGlance
            rw [mI_8, vr v11 (by omega), o_bind, vw v11 (by omega), o_bind, o_bind]
            have x1 : sD.1 (38 + 5) p = v (8 + p) := hs3.1.2.1 p hp
            have x2 : tD.1 11 (8 + p) = v (8 + p) := ht3.1 (8 + p) (by omega)
            rw [x1, x2]
            have hS4 : cS (u_pI sD (38 + 5) p (v (8 + p) ^^^ (1 <<< (mI q &&& 31)))) 38 M F (upV v (8 + p) (v (8 + p) ^^^ (1 <<< (mI q &&& 31)))) (s1.1 2) := cS_up b1 b3 hs3.1 (Or.inr (Or.inr (Or.inl ⟨rfl, by omega, rfl⟩)))
            rw [c_seenBy (by omega) (by omega) (by omega) hS4.2.2.2.2.2.2.2.1 (by omega), o_bind, bc_f, o_bind, o_bind, o_bind]
            refine goon _ _ _ (vok_dg b1 b3 hv1 (by omega) (Or.inr (by omega))) ?_ ⟨hS4, hs3.2.pI (by unfold scr; omega)⟩ ht3.up
            rw [p_Ia (by omega), p_Ia (by omega)]; exact ed4
  · have hkn : k = n := by omega
    subst hkn
    rw [if_pos (mle (by omega) (by omega) (Nat.le_refl _)), if_pos (mle (by omega) (by omega) (Nat.le_refl _))]
    have hin : ∀ x y, f_X7_howManyIn N (cT2 s x y) 38 = some (bc (sIn v (s1.1 2) M)) := fun x y => by
      have hs2 : cS (cT2 s x y) 38 M F v (s1.1 2) := cS_eq hs.1 (fun a _ _ => cT2_a (by omega))
      rw [c_howManyIn (by omega) (by omega) (by omega) hs2.2.2.2.2.2.2.2.1 b1 hN, sIn_cS hs2]
    have eM : (u_pI t 0 7 0).1 0 2 = mI M := by rw [p_Is (by omega)]; exact ht.men hC
    have eB : f_X12_beliefs N (u_pI t 0 7 0) 11 (sAll M) = some (sSum v M) := by
      rw [m_beliefs v11 eM b1 hN, sBel_all b1 M (Nat.le_refl _), p_Ia (by omega), sSum_congr (fun i hi => ht.1 i (by omega))]
    have eI : ∀ x y, f_X12_inBits N (mT2 t x y) 11 = some (sIn v (s1.1 2) M) := fun x y => by
      rw [m_inBits v11 (by rw [mT2_s (by omega)]; exact ht.men hC) b1 hN, mT2_a (by omega), mT2_a (by omega), sIn_mV ht.1 b1, ht.edg]
    have e36 : t.1 11 36 = v 36 := ht.1 36 (by omega)
    have e1 : t.1 1 36 = s1.1 1 36 := by rw [ht.2.1 1 (by omega) (by unfold scrM; omega)]
    have f38 : s.1 38 11 = v 36 := hs.1.2.2.2.2.2.2.2.2.2.2
    have f32 : s.1 32 11 = s1.1 1 36 := by rw [hs.2.1 32 (by unfold scr; omega)]; exact b6.2.2.2.2.2.2.2.2.2.2
    simp (disch := omega) only [u_jn, o_bind, o_nck, o_ckT, not_false_eq_true, mI_le, mI_lt, mI_eq, mI_succ, mI_8, mI_16, mI_add, i10, eq_self, if_true, if_false, Bool.false_eq_true, hs.bel b1 hN, c_two, hin, f38, f32, m_all eM, eB, m_tell0, m_tell1, vr36 v11, vr36 (Or.inl (Eq.refl 1)), mT1_a, e36, e1, eI, bc_f, ok_some]
    exact ⟨trivial, rel_look2 hC hs.2 ht.2 _ _⟩
