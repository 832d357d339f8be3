/-! PURE LAYER: week, done -/
theorem n_s13_ok (N j : Nat) (hN : 500 < N) : n_s13 N (Rel N j) (Rel N (j + 1)) := by
  intro σc σm h
  have h := h.thr
  refine two ?_
  unfold f_X12_week f_X11_week f_X9_begin
  simp only [jn_eq]
  generalize u_pI σm 0 8 0 = s1 at h ⊢
  obtain ⟨M, F, ρ, hC, hTo⟩ := h
  obtain ⟨T, d1, d2, d3, d4⟩ := id hC.2.1
  have hrr := hC.2.2.2.2.2.r
  have v1 : (1 : Nat) = 1 ∨ (1 : Nat) = 10 ∨ (1 : Nat) = 11 ∨ (1 : Nat) = 12 := by omega
  have v10 : (10 : Nat) = 1 ∨ (10 : Nat) = 10 ∨ (10 : Nat) = 11 ∨ (10 : Nat) = 12 := by omega
  rw [o_bind, m_bt, o_bind]
  unfold f_X5_wrongAt_X9
  simp only [jn_eq]
  have hB := BT_rd (σ := s1) (T := T) (top := 60) d3
  have hc0 : cX WS σc (u_pI (u_pI (u_pI (u_pI σc 15 3 0) 15 4 0) 15 5 (-1)) 1 1 0) := ⟨fun a h1 h2 => by
    have h3 : a ≠ 15 := fun h => h2 (by unfold WS; omega)
    rw [p_Ia h1, p_Ia h3, p_Ia h3, p_Ia h3], p_II _ _ _ _, rfl⟩
  have e11 : (u_pI (u_pI (u_pI σc 15 3 0) 15 4 0) 15 5 (-1)).1 1 1 = mI T := by rw [p_Ia (by omega), p_Ia (by omega), p_Ia (by omega)]; exact d2
  obtain ⟨w, s', t', y, r1, r2, r3, r4, r5⟩ := wk_read (N := N) (T := T) (σ := σc) (σm := s1) d1 (fun k hk => (d4 k hk).1) (fun k hk => (d4 k hk).2) T 0 0 N N (u_pI (u_pI (u_pI (u_pI σc 15 3 0) 15 4 0) 15 5 (-1)) 1 1 0) (BT s1 (mI 60)) (by omega) (by omega) (by omega) (by omega) (by omega) (by omega) (by rw [p_Ia (by omega), p_Is (by omega), p_Is (by omega), p_II]; rfl) (by rw [p_Ia (by omega), p_Is (by omega), p_II]) (by rw [p_Ia (by omega), p_II]) hc0 hB.1 mfr.rfl (fun i hi => absurd hi (by omega))
  have r1 : u_lp2 (b_X5_wrongAt_X9_13 N 60 (mI T) (fun s3 => (f_X9_takesEnd N s3).bind fun v5 => if v5 = 0 then some (mI T, s3) else some (-1, s3))) N (u_pI (u_pI (u_pI (u_pI σc 15 3 0) 15 4 0) 15 5 (-1)) 1 1 0) 0 = some (w, s') := r1
  have r2 : ∀ J, u_lp2 (b_X12_week_13 N J) N (BT s1 60) 0 = J t' y := r2
  rw [e11, r1, o_bind, r2]
  have hX := mX_of r4
  have hSr : ∀ r, σc.2.2 0 13 = some r → ¬ WS r ∧ ¬ WS (r + 1) := fun r hr => by have := hrr r hr; unfold WS; omega
  rcases r5 with ⟨rfl, n, hn, rfl, h153, hrd, hA⟩ | ⟨e, he, rfl, h13⟩
  · -- all read
    have hC2 : RelC N j M F ρ s' t' := hC.text0s (S := WS) (fun a ha => by unfold WS at ha; omega) hSr r3 hX
    have hTo2 : rTold s' t' := hTo.to (by rw [r3.1 3 (by omega) (by unfold WS; omega)]) (by rw [r3.2.2]) (by rw [hX.2.2.2.2.1]) (hX.2.1 7 (by omega))
    obtain ⟨b1, b2, b3, b4, b5, b6, b7⟩ := id hC2.1
    obtain ⟨U, hU12, hU⟩ := hC2.U
    obtain ⟨r, hr, hr2⟩ := hC2.hasR
    have hcR := hC2.cR hr
    have hr3 := hcR.1
    have hqq := hC2.2.2.2.2.2.q
    rw [if_pos (show (-1 : Int32) < 0 by decide), ok_bind]
    refine ok_mono (c_ahead hC2) (fun s hs => ?_)
    obtain ⟨c44, c32, hf⟩ := hs
    rw [m_right1 hrd (by omega) (by omega), if_pos (Nat.le_refl _), o_bind, if_neg n10, ok_swap, ok_bind]
    refine ok_mono (m_lay (o := 0) (zv v1) (zv v10) (by omega) (by omega) (by omega) (by omega) (by omega) hN) (fun t ht => ?_)
    rw [ok_swap]
    have hm0 : mfr (fun c => c = 1 ∨ c = 8 ∨ c = 10 ∨ c = 13) T0 t' t := (mfr_of (T := T0) ht.2 (by omega)).mono (fun c hc => by omega) (fun c hc => hc)
    -- the end: what was done, whether one was refused
    have fin : ∀ (fl : Bool) (s2 : uS) (t2 : uS) (i : Nat) (v : Nat → Int32) (x6 : Int32), i ≤ n → (fl = true → i < n) → (fl = false → i = n) → x6 = (if fl then 1 else 0) → cS s2 32 M F v (t'.1 2) → cS s2 44 M F (t'.1 1) (t'.1 2) → cAct s' s2 → mV t2 1 v → mV t2 10 (t'.1 1) → mfr (fun c => c = 1 ∨ c = 8 ∨ c = 10 ∨ c = 13) T0 t' t2 → vok (600 * (j + 1)) M F v → ok ((fun (s4 : uS) (x5 : Int32) (x6 : Int32) => (if x5 ≤ 0 then (if x6 = 0 then ((f_X7_howManyIn N s4 32).bind fun v12 => (f_X8_two N s4 0 (Int32.toInt64 v12)).bind fun s13 => some (x5, s13)) else ((f_X7_howManyIn N s4 32).bind fun v12 => (f_X8_two N s4 1 (Int32.toInt64 v12)).bind fun s13 => some (x5, s13))) else ((f_X3_push N s4 44).bind fun s14 => (if x6 = 0 then ((f_X7_howManyIn N s14 32).bind fun v12 => (f_X8_two N s14 0 (Int32.toInt64 v12)).bind fun s13 => some (x5, s13)) else ((f_X7_howManyIn N s14 32).bind fun v12 => (f_X8_two N s14 1 (Int32.toInt64 v12)).bind fun s13 => some (x5, s13)))) : Option (Int32 × uS))) s2 (mI i) x6) (fun a => ok ((fun (s8 : uS) (x9 : Int32) => (if x9 ≤ 0 then (if mI n ≤ x9 then ((f_X12_tell N (u_pI s8 0 7 0) 0).bind fun s16 => (f_X12_inBits N s16 1).bind fun v17 => (f_J6_bitCount_0f7a4 N s16 v17).bind fun v18 => (f_X12_tell N s16 (Int32.toInt64 v18)).bind fun s19 => some (x9, s19)) else ((f_X12_tell N (u_pI s8 0 7 0) 1).bind fun s16 => (f_X12_inBits N s16 1).bind fun v17 => (f_J6_bitCount_0f7a4 N s16 v17).bind fun v18 => (f_X12_tell N s16 (Int32.toInt64 v18)).bind fun s19 => some (x9, s19))) else ((f_X12_remember N s8 10).bind fun s20 => (if mI n ≤ x9 then ((f_X12_tell N (u_pI s20 0 7 0) 0).bind fun s16 => (f_X12_inBits N s16 1).bind fun v17 => (f_J6_bitCount_0f7a4 N s16 v17).bind fun v18 => (f_X12_tell N s16 (Int32.toInt64 v18)).bind fun s19 => some (x9, s19)) else ((f_X12_tell N (u_pI s20 0 7 0) 1).bind fun s16 => (f_X12_inBits N s16 1).bind fun v17 => (f_J6_bitCount_0f7a4 N s16 v17).bind fun v18 => (f_X12_tell N s16 (Int32.toInt64 v18)).bind fun s19 => some (x9, s19)))) : Option (Int32 × uS))) t2 (mI i)) (fun b => a.1 = b.1 ∧ Rel N (j + 1) a.2 b.2)) := by
      intro fl s2 t2 i v x6 hin hf1 hf2 hx6 i32 i44 iA iV iW iM iv
      -- both tell alike
      have tell2 : ∀ (s3 t3 : uS), RelC N (j + 1) M F ρ s3 t3 → cS s3 32 M F v (t'.1 2) → mV t3 1 v → t3.1 0 2 = mI M → t3.1 2 = t'.1 2 → ok (if x6 = 0 then ((f_X7_howManyIn N s3 32).bind fun v12 => (f_X8_two N s3 0 (Int32.toInt64 v12)).bind fun s13 => some (mI i, s13)) else ((f_X7_howManyIn N s3 32).bind fun v12 => (f_X8_two N s3 1 (Int32.toInt64 v12)).bind fun s13 => some (mI i, s13))) (fun a => ok (if mI n ≤ mI i then ((f_X12_tell N (u_pI t3 0 7 0) 0).bind fun s16 => (f_X12_inBits N s16 1).bind fun v17 => (f_J6_bitCount_0f7a4 N s16 v17).bind fun v18 => (f_X12_tell N s16 (Int32.toInt64 v18)).bind fun s19 => some (mI i, s19)) else ((f_X12_tell N (u_pI t3 0 7 0) 1).bind fun s16 => (f_X12_inBits N s16 1).bind fun v17 => (f_J6_bitCount_0f7a4 N s16 v17).bind fun v18 => (f_X12_tell N s16 (Int32.toInt64 v18)).bind fun s19 => some (mI i, s19))) (fun b => a.1 = b.1 ∧ Rel N (j + 1) a.2 b.2)) := by
        intro s3 t3 hR h32 hV3 hM3 he3
        have hmany : f_X7_howManyIn N s3 32 = some (bc (sIn v (t'.1 2) M)) := by rw [c_howManyIn (by omega) (by omega) (by omega) h32.2.2.2.2.2.2.2.1 b1 hN, sIn_cS h32]
        have hinB : ∀ z, f_X12_inBits N (mT1 t3 z) 1 = some (sIn v (t'.1 2) M) := fun z => by
          rw [m_inBits v1 (by rw [mT1_s (by omega)]; exact hM3) b1 hN, mT1_a (by omega), mT1_a (by omega), sIn_mV hV3 b1, he3]
        have go : ∀ z : Int64, ok ((f_X7_howManyIn N s3 32).bind fun v12 => (f_X8_two N s3 z (Int32.toInt64 v12)).bind fun s13 => some (mI i, s13)) (fun a => ok ((f_X12_tell N (u_pI t3 0 7 0) z).bind fun s16 => (f_X12_inBits N s16 1).bind fun v17 => (f_J6_bitCount_0f7a4 N s16 v17).bind fun v18 => (f_X12_tell N s16 (Int32.toInt64 v18)).bind fun s19 => some (mI i, s19)) (fun b => a.1 = b.1 ∧ Rel N (j + 1) a.2 b.2)) := fun z => by
          rw [hmany, o_bind, c_two, o_bind, ok_some, m_tell0, o_bind, hinB, o_bind, bc_f, o_bind, m_tell1, o_bind, ok_some]
          exact ⟨rfl, M, F, ρ, hR.told2 _ _, rTold_2 _ _⟩
        cases fl
        · rw [if_pos (by rw [hx6]; rfl), if_pos (mle (by omega) (by omega) (by have := hf2 rfl; omega))]
          exact go 0
        · rw [if_neg (by rw [hx6]; decide), if_neg (mnle (by omega) (by omega) (hf1 rfl))]
          exact go 1
      dsimp only
      by_cases hi0 : i = 0
      · rw [if_pos (rle 0 0 rfl (by omega) (by omega) (by omega)), if_pos (rle 0 0 rfl (by omega) (by omega) (by omega))]
        refine tell2 s2 t2 (hC2.now10 i32 iA iv iM (fun k hk => iV k hk)) i32 iV ?_ ?_
        · rw [iM.2.1 2 (by unfold T0; omega)]; exact b5
        · exact iM.1 2 (by omega) (by omega)
      · rw [if_neg (rnle 0 0 rfl (by omega) (by omega) (by omega)), if_neg (rnle 0 0 rfl (by omega) (by omega) (by omega)), ok_bind]
        obtain ⟨t3, hr1, hr2', hr3', hr4, hr5⟩ := m_remember (N := N) (σ := t2) v10 hU12 (by rw [iM.2.1 21 (by unfold T0; omega)]; exact hU) iW hN
        have e9 : t2.1 9 = t'.1 9 := iM.1 9 (by omega) (by omega)
        have hmA : mAct t' t3 v U := ⟨fun k hk => by rw [hr5.1 1 (by omega) (by omega)]; exact iV k hk, hr2', fun u hu k hk => by rw [hr3' u hu k hk, e9], hr4, fun c hc => by rw [hr5.1 c (by omega) (by omega)]; exact iM.1 c (by omega) (by omega), fun k hk => by rw [hr5.2.1 k (by omega)]; exact iM.2.1 k (by unfold T0; omega), fun k hk => by rw [hr5.2.2.2 0 k (by omega)]; exact iM.2.2.2 0 k (by omega)⟩
        refine ok_mono (act_rel hC2 i32 i44 iA iv hU hU12 hmA hN) (fun s3 hs3 => ?_)
        rw [hr1, o_bind]
        refine tell2 s3 t3 hs3.1 (cS_eq i32 (fun a _ _ => hs3.2.1 a (by omega) (by omega))) (fun k hk => by rw [hr5.1 1 (by omega) (by omega)]; exact iV k hk) ?_ ?_
        · rw [hr5.2.1 2 (by omega), iM.2.1 2 (by unfold T0; omega)]; exact b5
        · rw [hr5.1 2 (by omega) (by omega)]; exact iM.1 2 (by omega) (by omega)
    have main : ∀ (Jc : uS → Int32 → Int32 → Option (Int32 × uS)) (Jm : uS → Int32 → Option (Int32 × uS)), (∀ (fl : Bool) (s2 : uS) (t2 : uS) (i : Nat) (v : Nat → Int32) (x6 : Int32), i ≤ n → (fl = true → i < n) → (fl = false → i = n) → x6 = (if fl then 1 else 0) → cS s2 32 M F v (t'.1 2) → cS s2 44 M F (t'.1 1) (t'.1 2) → cAct s' s2 → mV t2 1 v → mV t2 10 (t'.1 1) → mfr (fun c => c = 1 ∨ c = 8 ∨ c = 10 ∨ c = 13) T0 t' t2 → vok (600 * (j + 1)) M F v → ok (Jc s2 (mI i) x6) (fun a => ok (Jm t2 (mI i)) (fun b => a.1 = b.1 ∧ Rel N (j + 1) a.2 b.2))) → ∀ (d i Mc Mm : Nat) (s t : uS) (v : Nat → Int32), i + d = n → d + 1 < Mc → d < Mm → cS s 32 M F v (t'.1 2) → cS s 44 M F (t'.1 1) (t'.1 2) → cAct s' s → mV t 1 v → mV t 10 (t'.1 1) → mfr (fun c => c = 1 ∨ c = 8 ∨ c = 10 ∨ c = 13) T0 t' t → vok (600 * j + 9 * i) M F v → ok (u_lp4 (b_X11_week_47 N Jc) Mc s (mI i) 0 (mI i)) (fun a => ok (u_lp2 (b_X12_week_72 N (mI n) Jm) Mm t (mI i)) (fun b => a.1 = b.1 ∧ Rel N (j + 1) a.2 b.2)) := by
      intro Jc Jm fin d
      induction d with
      | zero =>
        intro i Mc Mm s t v hid hMc hMm i32 i44 iA iV iW iM iv
        obtain ⟨Mc, rfl⟩ : ∃ m, Mc = m + 1 := ⟨Mc - 1, by omega⟩
        obtain ⟨Mm, rfl⟩ : ∃ m, Mm = m + 1 := ⟨Mm - 1, by omega⟩
        have hin : i = n := by omega
        subst hin
        show ok (b_X11_week_47 N Jc _ s (mI i) 0 (mI i)) (fun a => ok (b_X12_week_72 N (mI i) Jm _ t (mI i)) _)
        unfold b_X11_week_47 b_X12_week_72
        have ec : s.1 15 = s'.1 15 := iA.1 15 (by omega) (by omega) (by omega) (by omega) (by omega) (by omega)
        rw [ec, h153, if_pos (mle (by omega) (by omega) (Nat.le_refl _)), if_pos (mle (by omega) (by omega) (Nat.le_refl _))]
        exact fin false s t i v 0 (by omega) (fun h => by cases h) (fun _ => rfl) rfl i32 i44 iA iV iW iM (vok_le iv (by omega))
      | succ d ih =>
        intro i Mc Mm s t v hid hMc hMm i32 i44 iA iV iW iM iv
        obtain ⟨Mc, rfl⟩ : ∃ m, Mc = m + 1 := ⟨Mc - 1, by omega⟩
        obtain ⟨Mm, rfl⟩ : ∃ m, Mm = m + 1 := ⟨Mm - 1, by omega⟩
        have hlt : i < n := by omega
        show ok (b_X11_week_47 N Jc (u_lp4 (b_X11_week_47 N Jc) Mc) s (mI i) 0 (mI i)) (fun a => ok (b_X12_week_72 N (mI n) Jm (u_lp2 (b_X12_week_72 N (mI n) Jm) Mm) t (mI i)) _)
        have ec : ∀ a, 15 ≤ a → a < 19 → s.1 a = s'.1 a := fun a h1 h2 => iA.1 a (by omega) (by omega) (by omega) (by omega) (by omega) (by omega)
        have hunf : b_X12_week_72 N (mI n) Jm (u_lp2 (b_X12_week_72 N (mI n) Jm) Mm) t (mI i) = (f_X12_act N t (t'.1 14 (3 * i)) (t'.1 14 (3 * i + 1)) (t'.1 14 (3 * i + 2))).bind fun v27 => if v27.1 = 0 then Jm v27.2 (mI i) else u_lp2 (b_X12_week_72 N (mI n) Jm) Mm v27.2 (mI (i + 1)) := by
          have e14 : t.1 14 = t'.1 14 := iM.1 14 (by omega) (by omega)
          unfold b_X12_week_72
          rw [if_neg (mnle (by omega) (by omega) hlt)]
          simp only [show (3 : Int32) = mI 3 from rfl, mI_mul, mI_succ, show (2 : Int32) = mI 2 from rfl, mI_add, mr_14 (show 3 * i < 240 by omega), mr_14 (show 3 * i + 1 < 240 by omega), mr_14 (show 3 * i + 2 < 240 by omega), o_bind, e14, jn_eq]
        rw [hunf]
        generalize hRc : u_lp4 (b_X11_week_47 N Jc) Mc = Rc
        unfold b_X11_week_47
        rw [ec 15 (by omega) (by omega), h153, if_neg (mnle (by omega) (by omega) hlt), if_pos rfl]
        have hwk : wkD s i (t'.1 14 (3 * i)) (t'.1 14 (3 * i + 1)) (t'.1 14 (3 * i + 2)) := by
          have := hA i hlt
          unfold wkA wkD at this
          unfold wkD
          rw [ec 16 (by omega) (by omega), ec 17 (by omega) (by omega), ec 18 (by omega) (by omega)]
          exact this
        have hRs : cR N s r ρ := by
          have e1 : s.1 r = s'.1 r := iA.1 r (by omega) (by omega) (by omega) (by omega) (by omega) (by omega)
          have e2 : s.1 (r + 1) = s'.1 (r + 1) := iA.1 (r + 1) (by omega) (by omega) (by omega) (by omega) (by omega) (by omega)
          unfold cR
          rw [e1, e2]
          exact hcR
        obtain ⟨g, v', zc, zm, q1, q2, q3, q4, q5, q6, q7, q8, q9⟩ := act_ok (N := N) (ρ := ρ) (by omega) hwk i32 iV (iM.1 2 (by omega) (by omega)) (by rw [iM.2.1 2 (by unfold T0; omega)]; exact b5) (by rw [iM.2.1 1 (by unfold T0; omega)]; exact b4) b1 b2 b3 iv (by rw [iA.2]; exact hr) hRs (hC2.2.2.2.2.2.mR.fr iM (by omega) (by omega) (by unfold T0; omega)) hN
        rw [q1, q2, o_bind, o_bind, q4]
        simp only [jn_eq, mI_succ]
        have iA2 : cAct s' zc.2 := ⟨fun a g1 g2 g3 g4 g5 g6 => by rw [q6.1 a (by omega)]; exact iA.1 a g1 g2 g3 g4 g5 g6, by rw [q6.2]; exact iA.2⟩
        have i44' : cS zc.2 44 M F (t'.1 1) (t'.1 2) := i44.fr q6 (by omega) (by omega) (by omega) (by omega) (by omega)
        have iM2 : mfr (fun c => c = 1 ∨ c = 8 ∨ c = 10 ∨ c = 13) T0 t' zm.2 := (iM.trans q8).mono (fun c hc => by omega) (fun c hc => hc.elim id id)
        have iW' : mV zm.2 10 (t'.1 1) := fun k hk => by rw [q8.1 10 (by omega) (by omega)]; exact iW k hk
        cases g
        · -- refused: the class goes round once more
          have hneg : ¬ 0 ≤ zc.1 := fun h => by rw [if_pos h] at q3; exact absurd q3 (by decide)
          rw [if_neg hneg]
          simp only [Bool.false_eq_true, if_false, if_true, i10, Int32.add_zero]
          obtain ⟨Mc, rfl⟩ : ∃ m, Mc = m + 1 := ⟨Mc - 1, by omega⟩
          have hone : u_lp4 (b_X11_week_47 N Jc) (Mc + 1) zc.2 (mI i) 1 (mI (i + 1)) = Jc zc.2 (mI i) 1 := by
            show b_X11_week_47 N Jc _ zc.2 (mI i) 1 (mI (i + 1)) = _
            unfold b_X11_week_47
            by_cases hc : zc.2.1 15 3 ≤ mI (i + 1)
            · rw [if_pos hc]
            · rw [if_neg hc, if_neg n10]
          rw [← hRc, hone]
          exact fin true zc.2 zm.2 i v' 1 (by omega) (fun _ => hlt) (fun h => by cases h) rfl q5 i44' iA2 q7 iW' iM2 (vok_le q9 (by omega))
        · have hpos : 0 ≤ zc.1 := Classical.byContradiction fun h => by rw [if_neg h] at q3; exact absurd q3 (by decide)
          rw [if_pos hpos]
          simp only [if_true, i10, if_false, mI_succ]
          rw [← hRc]
          exact ih (i + 1) Mc Mm zc.2 zm.2 v' (by omega) (by omega) (by omega) q5 i44' iA2 q7 iW' iM2 (vok_le q9 (by omega))
    exact main _ _ fin n 0 N N s t (t'.1 1) (by omega) (by omega) (by omega) c32 c44 ⟨fun a g1 g2 _ _ _ _ => hf.1 a (by omega), hf.2⟩ (fun q hq => by rw [ht.2.1 1 (by omega)]) (fun q hq => by rw [ht.1, if_pos (by omega)]; rfl) hm0 b7
  · rw [if_neg (mI_n0 (by omega)), ok_some, m_right0 (by rw [h13]; intro h; exact absurd (m1_le e (by omega)).2 (by rw [h]; decide)), o_bind, if_pos rfl, ok_some, h13]
    exact ⟨rfl, rel_text0 hC hTo (S := WS) (fun a ha => by unfold WS at ha; omega) hSr r3 hX⟩
