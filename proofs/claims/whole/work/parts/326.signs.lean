/-! PURE LAYER: signs, empties -/
theorem c_fstep {N j M F r n k : Nat} {ρ : Rho} {σc σm s : uS} {p1 p5 us few found : Int32} {vv : Int32 × uS} {J : uS → Int32 → Int32 → Option (Int32 × uS)} {rec : uS → Int32 → Int32 → Int32 → Option (Int32 × uS)} {Q : Int32 × uS → Prop} (hC : RelC N j M F ρ σc σm) (hf : fr scr σc s) (hr : σc.2.2 0 13 = some r) (hn0 : 0 < n) (hn : n < 500) (hN : 500 < N) (hk : k < 2 ^ M) (hvv : vv.1 = us) (hp : p5 ≠ 0 → p1 = sAll M)
    (h1 : mI k &&& (us ^^^ (-1)) = 0 → mI (cnt (mI k) 8) < few → Wk ρ (σm.1 2) M (σm.1 1) p1 p5 n k → ∀ s', fr scr σc s' → ok (rec s' (mI (cnt (mI k) 8)) (mI k) (mI (k + 1))) Q)
    (h2 : ¬ (mI k &&& (us ^^^ (-1)) = 0 ∧ mI (cnt (mI k) 8) < few ∧ Wk ρ (σm.1 2) M (σm.1 1) p1 p5 n k) → ∀ s', fr scr σc s' → ok (rec s' few found (mI (k + 1))) Q) : ok (b_X11_fewestSigns_27 N p1 (mI n) p5 vv (1 <<< (mI M &&& 31)) J rec s few found (mI k)) Q := by
  have b1 := hC.1.1
  have hp8 := pow8 b1
  obtain ⟨r', hr', hr2⟩ := hC.hasR
  rw [hr] at hr'
  cases hr'
  unfold b_X11_fewestSigns_27
  rw [shlM (by omega), if_neg (by rw [mI_le (by omega) (by omega)]; omega), bc_f, o_bind, bc_k b1 hk, hvv]
  simp only [jn_eq, mI_succ]
  by_cases c1 : mI k &&& (us ^^^ (-1)) = 0
  · rw [if_pos c1]
    by_cases c2 : mI (cnt (mI k) 8) < few
    · rw [if_pos c2, hf.2, hr, o_bind, o_ck hr2, ok_bind]
      refine ok_mono (c_bel hC hf hr hn hN) (fun s2 hs2 => ?_)
      obtain ⟨w, w1, w2, w3⟩ := hs2
      rw [w1.inside b1 hN, o_bind]
      have hW : (sIn w (σm.1 2) M &&& p1 = 0) ↔ Wk ρ (σm.1 2) M (σm.1 1) p1 p5 n k := by
        unfold Wk
        by_cases h5 : p5 = 0
        · rw [w2 h5]
          exact ⟨fun h => Or.inl ⟨h5, h⟩, fun h => h.elim (fun h => h.2) (fun h => absurd h5 h.1)⟩
        · rw [hp h5, sIn_all b1, w3 h5 hn0]
          exact ⟨fun h => Or.inr ⟨h5, h⟩, fun h => h.elim (fun h => absurd h.1 h5) (fun h => h.2)⟩
      by_cases c3 : sIn w (σm.1 2) M &&& p1 = 0
      · rw [if_pos c3]
        exact h1 c1 c2 (hW.mp c3) _ w1.2
      · rw [if_neg c3]
        exact h2 (fun h => c3 (hW.mpr h.2.2)) _ w1.2
    · rw [if_neg c2]
      exact h2 (fun h => c2 h.2.1) _ hf
  · rw [if_neg c1]
    exact h2 (fun h => c1 h.1) _ hf
/-- what both know when the sets below k are gone through -/
def fInv (W : Nat → Prop) (k : Nat) (few found best : Int32) : Prop := (few = mI 9 ∧ best = -1 ∧ ∀ a, a < k → ¬ W a) ∨ ∃ b, b < k ∧ few = mI (cnt (mI b) 8) ∧ found = mI b ∧ best = mI b ∧ W b ∧ ∀ a, a < k → W a → cnt (mI b) 8 ≤ cnt (mI a) 8
/-- the fewest signs, beside whatever loop of the reference goes through the sets likewise -/
theorem few_loop {N j M F r n : Nat} {ρ : Rho} {σc σm s t : uS} {p1 p5 us : Int32} {vv : Int32 × uS} {J : uS → Int32 → Int32 → Option (Int32 × uS)} {C : (uS → Int32 → Int32 → Option (Int32 × uS)) → uS → Int32 → Int32 → Option (Int32 × uS)} {P : Int32 × uS → Int32 × uS → Prop} (hC : RelC N j M F ρ σc σm) (hf : fr scr σc s) (hm : mfr scrM scrT σm t) (hr : σc.2.2 0 13 = some r) (hn0 : 0 < n) (hn : n < 500) (hN : 500 < N) (hvv : vv.1 = us) (hu : isUse ρ (σm.1 1) (σm.1 2) M us) (hp : p5 ≠ 0 → p1 = sAll M)
    (hstep : ∀ (rec2 : uS → Int32 → Int32 → Option (Int32 × uS)) (t' : uS) (best : Int32) (k : Nat) (Q : Int32 × uS → Prop), mfr scrM scrT σm t' → k < 2 ^ M → ((best = -1 ∨ mI (cnt (mI k) 8) < bc best) → Wk ρ (σm.1 2) M (σm.1 1) p1 p5 n k → ∀ t2, mfr scrM scrT σm t2 → ok (rec2 t2 (mI k) (mI (k + 1))) Q) → (¬ ((best = -1 ∨ mI (cnt (mI k) 8) < bc best) ∧ Wk ρ (σm.1 2) M (σm.1 1) p1 p5 n k) → ∀ t2, mfr scrM scrT σm t2 → ok (rec2 t2 best (mI (k + 1))) Q) → ok (C rec2 t' best (mI k)) Q)
    (hend : ∀ (rec2 : uS → Int32 → Int32 → Option (Int32 × uS)) (s' t' : uS) (few found best : Int32), fr scr σc s' → mfr scrM scrT σm t' → fInv (Wk ρ (σm.1 2) M (σm.1 1) p1 p5 n) (2 ^ M) few found best → ok (J s' few found) (fun a => ok (C rec2 t' best (mI (2 ^ M))) (fun b => P a b))) : ok (u_lp4 (b_X11_fewestSigns_27 N p1 (mI n) p5 vv (1 <<< (mI M &&& 31)) J) N s (mI 9) 0 0) (fun a => ok (u_lp3 C N t (-1) 0) (fun b => P a b)) := by
  have b1 := hC.1.1
  have hp8 := pow8 b1
  refine lpr43 (fun k y1 y2 y3 y4 z1 z2 z3 => fr scr σc y1 ∧ mfr scrM scrT σm z1 ∧ fInv (Wk ρ (σm.1 2) M (σm.1 1) p1 p5 n) k y2 y3 z2 ∧ y4 = mI k ∧ z3 = mI k) (2 ^ M) N _ _ _ _ _ _ _ (by omega) ?_ ⟨hf, hm, Or.inl ⟨rfl, rfl, fun a h => absurd h (by omega)⟩, rfl, rfl⟩
  rintro k y1 y2 y3 y4 z1 z2 z3 rec rec2 hk ⟨i1, i2, i3, rfl, rfl⟩ hrec
  by_cases hlt : k < 2 ^ M
  · generalize hW : Wk ρ (σm.1 2) M (σm.1 1) p1 p5 n = W at i3 hrec
    have hck := cnt_le (mI k) 8
    have hcons : (z2 = -1 ∨ mI (cnt (mI k) 8) < bc z2) ↔ mI (cnt (mI k) 8) < y2 := by
      rcases i3 with ⟨rfl, rfl, -⟩ | ⟨b, hb, rfl, -, rfl, -⟩
      · exact ⟨fun _ => by rw [mI_lt (by omega) (by omega)]; omega, fun _ => Or.inl rfl⟩
      · rw [bc_k b1 (show b < 2 ^ M by omega)]
        refine ⟨fun h => h.elim (fun h => ?_) id, fun h => Or.inr h⟩
        have := (m1_le b (by omega)).2
        rw [h] at this
        exact absurd this (by decide)
    have hrem : ¬ mI k &&& (us ^^^ (-1)) = 0 → W k → ∃ k', k' < k ∧ W k' ∧ cnt (mI k') 8 + 1 = cnt (mI k) 8 := by
      intro h1 h2
      obtain ⟨k', g1, g2, g3⟩ := few_rem (p1 := p1) (p5 := p5) b1 hn0 hlt hu h1
      rw [hW] at g3
      exact ⟨k', g1, g3.mp h2, g2⟩
    have hno : W k → ¬ mI k &&& (us ^^^ (-1)) = 0 → ¬ mI (cnt (mI k) 8) < y2 := by
      intro h1 h2 h3
      obtain ⟨k', g1, g2, g3⟩ := hrem h2 h1
      rcases i3 with ⟨rfl, -, hz⟩ | ⟨b, hb, rfl, -, -, -, hz⟩
      · exact hz k' g1 g2
      · have := hz k' g1 g2
        have hb8 := cnt_le (mI b) 8
        rw [mI_lt (by omega) (by omega)] at h3
        omega
    refine c_fstep hC i1 hr hn0 hn hN hlt hvv hp (fun c1 c2 c3 s' hs' => ?_) (fun c1 s' hs' => ?_)
    · rw [hW] at c3
      rw [ok_swap]
      refine hstep rec2 z1 z2 k _ i2 hlt (fun d1 d2 t2 ht2 => ?_) (fun d1 => absurd ⟨hcons.mpr c2, by rw [hW]; exact c3⟩ d1)
      rw [ok_swap]
      refine hrec _ _ _ _ _ _ _ hlt ⟨hs', ht2, Or.inr ⟨k, by omega, rfl, rfl, rfl, c3, fun a ha hWa => ?_⟩, rfl, rfl⟩
      by_cases hak : a = k
      · rw [hak]; exact Nat.le_refl _
      · rcases i3 with ⟨rfl, -, hz⟩ | ⟨b, hb, rfl, -, -, -, hz⟩
        · exact absurd hWa (hz a (by omega))
        · have := hz a (by omega) hWa
          have hb8 := cnt_le (mI b) 8
          rw [mI_lt (by omega) (by omega)] at c2
          omega
    · rw [hW] at c1
      rw [ok_swap]
      refine hstep rec2 z1 z2 k _ i2 hlt (fun d1 d2 t2 ht2 => ?_) (fun d1 t2 ht2 => ?_)
      · rw [hW] at d2
        have d3 := hcons.mp d1
        by_cases hs : mI k &&& (us ^^^ (-1)) = 0
        · exact absurd ⟨hs, d3, d2⟩ c1
        · exact absurd d3 (hno d2 hs)
      · rw [hW, hcons] at d1
        rw [ok_swap]
        refine hrec _ _ _ _ _ _ _ hlt ⟨hs', ht2, ?_, rfl, rfl⟩
        rcases i3 with ⟨rfl, rfl, hz⟩ | ⟨b, hb, rfl, rfl, rfl, hWb, hz⟩
        · refine Or.inl ⟨rfl, rfl, fun a ha hWa => ?_⟩
          by_cases hak : a = k
          · rw [hak] at hWa
            exact d1 ⟨by rw [mI_lt (by omega) (by omega)]; omega, hWa⟩
          · exact hz a (by omega) hWa
        · refine Or.inr ⟨b, by omega, rfl, rfl, rfl, hWb, fun a ha hWa => ?_⟩
          by_cases hak : a = k
          · rw [hak] at hWa ⊢
            apply Nat.le_of_not_lt
            intro hl
            have hb8 := cnt_le (mI b) 8
            exact d1 ⟨by rw [mI_lt (by omega) (by omega)]; exact hl, hWa⟩
          · exact hz a (by omega) hWa
  · have hk2 : k = 2 ^ M := by omega
    subst hk2
    unfold b_X11_fewestSigns_27
    rw [shlM (by omega), if_pos (by rw [mI_le (by omega) (by omega)]; omega)]
    exact hend rec2 _ _ _ _ _ i1 i2 i3
theorem m_signsBody {N j M F n k : Nat} {ρ : Rho} {σc σm t : uS} {p1 best : Int32} {J : uS → Int32 → Option (Int32 × uS)} {rec2 : uS → Int32 → Int32 → Option (Int32 × uS)} {Q : Int32 × uS → Prop} (hC : RelC N j M F ρ σc σm) (hm : mfr scrM scrT σm t) (hn : n < 500) (hN : 500 < N) (hk : k < 2 ^ M)
    (h1 : (best = -1 ∨ mI (cnt (mI k) 8) < bc best) → Wk ρ (σm.1 2) M (σm.1 1) p1 0 n k → ∀ t2, mfr scrM scrT σm t2 → ok (rec2 t2 (mI k) (mI (k + 1))) Q)
    (h2 : ¬ ((best = -1 ∨ mI (cnt (mI k) 8) < bc best) ∧ Wk ρ (σm.1 2) M (σm.1 1) p1 0 n k) → ∀ t2, mfr scrM scrT σm t2 → ok (rec2 t2 best (mI (k + 1))) Q) : ok (b_X12_signs_27 N p1 (mI n) J rec2 t best (mI k)) Q := by
  obtain ⟨b1, b2, b3, b4, b5, b6, b7⟩ := id hC.1
  have hp8 := pow8 b1
  have v11 : (11 : Nat) = 1 ∨ (11 : Nat) = 10 ∨ (11 : Nat) = 11 ∨ (11 : Nat) = 12 := by omega
  have e2 : t.1 0 2 = mI M := by rw [hm.2.1 2 (nT (by omega))]; exact b5
  have e1 : t.1 1 = σm.1 1 := hm.1 1 (by omega) (by unfold scrM; omega)
  unfold b_X12_signs_27
  rw [m_all e2, o_bind, sAllM (by omega), if_neg (by rw [mI_lt (by omega) (by omega)]; omega)]
  simp only [jn_eq, mI_succ]
  have body : (best = -1 ∨ mI (cnt (mI k) 8) < bc best) → ok ((f_X12_laySigns N t (mI k)).bind fun s20 => (f_X12_goCrossings N s20 11 (mI n)).bind fun v21 => (f_X12_inBits N v21.2 11).bind fun v22 => if v22 &&& p1 = 0 then rec2 v21.2 (mI k) (mI (k + 1)) else rec2 v21.2 best (mI (k + 1))) Q := by
    intro hcons
    rw [ok_bind]
    refine ok_mono (m_laySigns hN) (fun s hs => ?_)
    rw [e1] at hs
    have hT : TM σm 11 (sgV (σm.1 1) (mI k)) s := by
      refine ⟨hs.1, (hm.trans hs.2).mono (fun c hc => ?_) (fun c hc => hc.elim id (fun h => h.elim))⟩
      rcases hc with hc | hc
      · exact hc
      · unfold scrM; omega
    rw [ok_bind]
    refine ok_mono (hT.crosses (Or.inl rfl) hC (sgV_vok b1 b3 b7 (lo8_k b1 hk)) hn hN) (fun z hz => ?_)
    obtain ⟨-, z2, -⟩ := hz
    rw [z2.inB (Or.inl rfl) hC hN, o_bind, sIn_N b1 b3]
    by_cases hw : sIn (turnN ρ (σm.1 2) M (sgV (σm.1 1) (mI k)) n) (σm.1 2) M &&& p1 = 0
    · rw [if_pos hw]
      exact h1 hcons (Or.inl ⟨rfl, hw⟩) _ z2.2
    · rw [if_neg hw]
      exact h2 (fun h => h.2.elim (fun h => hw h.2) (fun h => h.1 rfl)) _ z2.2
  by_cases hb : best = -1
  · rw [if_pos hb]
    exact body (Or.inl hb)
  · rw [if_neg hb, bc_f, o_bind, bc_f, o_bind, bc_k b1 hk]
    by_cases hc : mI (cnt (mI k) 8) < bc best
    · rw [if_pos hc]
      exact body (Or.inr hc)
    · rw [if_neg hc]
      exact h2 (fun h => h.1.elim hb hc) _ hm
theorem few_end {N j M F : Nat} {ρ : Rho} {σc σm s t : uS} {W : Nat → Prop} {few found best : Int32} (hC : RelC N j M F ρ σc σm) (hTo : rTold σc σm) (hf : fr scr σc s) (hm : mfr scrM scrT σm t) (hI : fInv W (2 ^ M) few found best) : ok (if few ≤ 8 then (f_X8_one N s (Int32.toInt64 found)).bind fun s7 => some (few, s7) else some (-2, s)) (fun a => ok (if best = -1 then some (-2, t) else (f_X12_tell N (u_pI t 0 7 0) (Int32.toInt64 best)).bind fun s8 => (f_J6_bitCount_0f7a4 N s8 best).bind fun v9 => some (v9, s8)) (fun b => a.1 = b.1 ∧ Rel N (j + 1) a.2 b.2)) := by
  have b1 := hC.1.1
  have hp8 := pow8 b1
  rcases hI with ⟨rfl, rfl, -⟩ | ⟨b, hb, rfl, rfl, rfl, -⟩
  · rw [if_neg (by decide), if_pos rfl, ok_some, ok_some]
    exact ⟨rfl, rel_look0 hC hTo hf hm⟩
  · have hb8 := cnt_le (mI b) 8
    rw [if_pos (by rw [show (8 : Int32) = mI 8 from rfl, mI_le (by omega) (by omega)]; exact hb8), if_neg (fun he => by have := (m1_le b (by omega)).2; rw [he] at this; exact absurd this (by decide)), c_one, o_bind, ok_some, m_tell0, o_bind, bc_f, o_bind, ok_some, bc_k b1 hb]
    exact ⟨rfl, rel_look1 hC hf hm _⟩
theorem are_same {M : Nat} {p : Int32} (hM : M ≤ 8) : (p &&& (sAll M ^^^ (-1)) = 0) ↔ (¬ p < 0 ∧ ¬ sAll M < p) := by
  have hp8 := pow8 hM
  have hpos : 0 < 2 ^ M := Nat.pow_pos (by omega)
  constructor
  · intro h
    have hb : ∀ i, M ≤ i → tb p i = false := by
      intro i hi
      by_cases hi2 : i < 32
      · have := congrArg (fun x => tb x i) h
        rw [tb_and, tb_not hi2, tb_all (by omega) hi2, tb_0] at this
        simp only [show ¬ i < M by omega, decide_false, Bool.not_false, Bool.and_true] at this
        exact this
      · exact tb_hi (by omega)
    have hx : p.toBitVec.toNat < 2 ^ M := Nat.lt_pow_two_of_testBit _ (fun i hi => hb i hi)
    have hp : p = mI p.toBitVec.toNat := by
      apply Int32.toBitVec_inj.mp
      show _ = BitVec.ofNat 32 p.toBitVec.toNat
      simp
    rw [hp]
    refine ⟨mI_n0 (by omega), ?_⟩
    rw [sAllM (by omega), mI_lt (by omega) (by omega)]
    omega
  · rintro ⟨h1, h2⟩
    rw [sAllM (by omega)] at h2
    obtain ⟨k, -, hk, rfl⟩ := rng (p := p) (lo := 0) (hi := 2 ^ M - 1) (by omega) (by omega) h1 h2
    apply tb_ext
    intro i hi
    rw [tb_and, tb_not hi, tb_all (by omega) hi, tb_0]
    by_cases hiM : i < M
    · simp [hiM]
    · rw [tb_small (show k < 2 ^ M by omega) (by omega)]; rfl
theorem c_are {N i M : Nat} {σ : uS} {p : Int32} (hM : σ.1 i 8 = mI M) (hM8 : M ≤ 8) : f_X7_arePeople N σ i p = some (if p &&& (sAll M ^^^ (-1)) = 0 then 1 else 0) := by
  unfold f_X7_arePeople
  rw [c_everybody hM, o_bind]
  split <;> rfl
theorem m_are {N M : Nat} {σ : uS} {p : Int32} (hM : σ.1 0 2 = mI M) (hM8 : M ≤ 8) : f_X12_areMen N σ p = some (if p &&& (sAll M ^^^ (-1)) = 0 then 1 else 0) := by
  unfold f_X12_areMen
  rw [m_all hM, o_bind, m_in, o_bind]
  by_cases h : p &&& (sAll M ^^^ (-1)) = 0
  · obtain ⟨h1, h2⟩ := (are_same hM8).mp h
    rw [if_pos h, if_neg h1, if_neg h2]; rfl
  · rw [if_neg h]
    by_cases h1 : p < 0
    · rw [if_pos h1]; rfl
    · by_cases h2 : sAll M < p
      · rw [if_neg h1, if_pos h2]; rfl
      · exact absurd ((are_same hM8).mpr ⟨h1, h2⟩) h
theorem n_s18_ok (N j : Nat) (hN : 500 < N) : n_s18 N (Rel N j) (Rel N (j + 1)) := by
  intro σc σm h a1 a2
  have h := h.thr
  refine two ?_
  unfold f_X12_signs f_X11_signs
  simp only [jn_eq]
  generalize u_pI σm 0 8 0 = s1 at h ⊢
  have hmono := h.mono
  obtain ⟨M, F, ρ, hC, hTo⟩ := h
  obtain ⟨b1, b2, b3, b4, b5, b6, b7⟩ := id hC.1
  rw [c_are b6.2.2.2.2.2.2.2.1 b1, m_are b5 b1, c_soon, m_soon]
  simp only [o_bind]
  by_cases c0 : a1 &&& (sAll M ^^^ (-1)) = 0
  · rw [if_pos c0, if_neg n10, if_neg n10]
    by_cases c1 : a2 < 1
    · rw [if_pos c1, if_pos rfl, if_pos rfl, ok_some, ok_some]
      exact ⟨rfl, hmono⟩
    by_cases c2 : 20 < a2
    · rw [if_neg c1, if_pos c2, if_pos rfl, if_pos rfl, ok_some, ok_some]
      exact ⟨rfl, hmono⟩
    obtain ⟨n, hn0, hn, rfl⟩ := rng (p := a2) (lo := 1) (hi := 20) (by omega) (by omega) c1 c2
    rw [if_neg c1, if_neg c2, if_neg n10, if_neg n10]
    unfold f_X11_fewestSigns
    obtain ⟨r, hr, hr2⟩ := hC.hasR
    rw [ok_bind, ok_bind]
    refine ok_mono (c_useful hC hN) (fun z hz => ?_)
    obtain ⟨z1, z2⟩ := hz
    simp only [jn_eq]
    have e8 : z.2.1 32 8 = mI M := by rw [z2.1 32 (by unfold scr; omega)]; exact b6.2.2.2.2.2.2.2.1
    rw [e8]
    have hl := few_loop (P := fun a b => a.1 = b.1 ∧ Rel N (j + 1) a.2 b.2) (p1 := a1) (p5 := 0) (n := n) (vv := z) (J := fun (s3 : uS) (x4 : Int32) (x5 : Int32) => (if x4 ≤ 8 then ((f_X8_one N s3 (Int32.toInt64 x5)).bind fun s7 => some (x4, s7)) else (some ((-2), s3)) : Option (Int32 × uS))) (C := b_X12_signs_27 N a1 (mI n) (fun (s4 : uS) (x5 : Int32) => (if x5 = (-1) then (some ((-2), s4)) else ((f_X12_tell N (u_pI s4 0 7 0) (Int32.toInt64 x5)).bind fun s8 => (f_J6_bitCount_0f7a4 N s8 x5).bind fun v9 => some (v9, s8)) : Option (Int32 × uS)))) hC z2 (mfr.rfl (S := scrM) (T := scrT) (σ := s1)) hr (by omega) (by omega) hN rfl z1 (fun h => absurd rfl h) (fun rec2 t' best k Q ht hk h1 h2 => m_signsBody hC ht (by omega) hN hk h1 h2) (fun rec2 s' t' few found best hs ht hI => ?_)
    · refine ok_mono hl (fun a ha => by rw [ok_some]; exact ha)
    · unfold b_X12_signs_27
      have hp8 := pow8 b1
      have hpos : 0 < 2 ^ M := Nat.pow_pos (by omega)
      rw [m_all (by rw [ht.2.1 2 (nT (by omega))]; exact b5), o_bind, sAllM (by omega), if_pos (show mI (2 ^ M - 1) < mI (2 ^ M) by rw [mI_lt (by omega) (by omega)]; omega)]
      exact few_end hC hTo hs ht hI
  · rw [if_neg c0, if_pos rfl, if_pos rfl, ok_some, ok_some]
    exact ⟨rfl, hmono⟩
theorem m_doEmpty {N j M F B n : Nat} {ρ : Rho} {σc σm t : uS} {v : Nat → Int32} (hC : RelC N j M F ρ σc σm) (ht : TM σm 11 v t) (hv : vok B M F v) (hn : n < 500) (hN : 500 < N) : ok (f_X12_doEmpty N t 11 (mI n)) (fun z => ((z.1 = 0 ∧ ¬ ∃ i, i < n ∧ sIn (turnN ρ (σm.1 2) M v (i + 1)) (σm.1 2) M = 0) ∨ (z.1 = 1 ∧ ∃ i, i < n ∧ sIn (turnN ρ (σm.1 2) M v (i + 1)) (σm.1 2) M = 0)) ∧ mfr scrM scrT σm z.2) := by
  obtain ⟨b1, b2, b3, b4, b5, b6, b7⟩ := id hC.1
  unfold f_X12_doEmpty
  simp only [jn_eq]
  refine lp2_ok (fun i t' y => y = mI i ∧ TM σm 11 (crossN ρ (σm.1 2) M F v i) t' ∧ ∀ k, k < i → sIn (turnN ρ (σm.1 2) M v (k + 1)) (σm.1 2) M ≠ 0) n N _ _ (by omega) ?_ ⟨rfl, ht, fun k hk => absurd hk (by omega)⟩
  rintro i t' y rec hi ⟨rfl, i1, i2⟩ hrec
  unfold b_X12_doEmpty_2
  by_cases hlt : i < n
  · rw [if_neg (by rw [mI_le (by omega) (by omega)]; omega), ok_bind]
    refine ok_mono (i1.cross (Or.inl rfl) hC (vok_crossN b1 b3 hv i) hN) (fun z hz => ?_)
    have hz : TM σm 11 (crossN ρ (σm.1 2) M F v (i + 1)) z.2 := hz.2
    rw [hz.inB (Or.inl rfl) hC hN, o_bind, sIn_N b1 b3]
    by_cases h0 : sIn (turnN ρ (σm.1 2) M v (i + 1)) (σm.1 2) M = 0
    · rw [if_pos h0, ok_some]
      exact ⟨Or.inr ⟨rfl, i, hlt, h0⟩, hz.2⟩
    · rw [if_neg h0]
      simp only [jn_eq, mI_succ]
      refine hrec _ _ hlt ⟨rfl, hz, fun k hk => ?_⟩
      by_cases hki : k = i
      · rw [hki]; exact h0
      · exact i2 k (by omega)
  · have hin : i = n := by omega
    subst hin
    rw [if_pos (by rw [mI_le (by omega) (by omega)]; omega), ok_some]
    exact ⟨Or.inl ⟨rfl, fun ⟨k, hk, hk0⟩ => i2 k hk hk0⟩, i1.2⟩
theorem m_emptiesBody {N j M F n k : Nat} {ρ : Rho} {σc σm t : uS} {p1 best : Int32} {J : uS → Int32 → Option (Int32 × uS)} {rec2 : uS → Int32 → Int32 → Option (Int32 × uS)} {Q : Int32 × uS → Prop} (hC : RelC N j M F ρ σc σm) (hm : mfr scrM scrT σm t) (hn : n < 500) (hN : 500 < N) (hk : k < 2 ^ M)
    (h1 : (best = -1 ∨ mI (cnt (mI k) 8) < bc best) → Wk ρ (σm.1 2) M (σm.1 1) p1 1 n k → ∀ t2, mfr scrM scrT σm t2 → ok (rec2 t2 (mI k) (mI (k + 1))) Q)
    (h2 : ¬ ((best = -1 ∨ mI (cnt (mI k) 8) < bc best) ∧ Wk ρ (σm.1 2) M (σm.1 1) p1 1 n k) → ∀ t2, mfr scrM scrT σm t2 → ok (rec2 t2 best (mI (k + 1))) Q) : ok (b_X12_empties_18 N (mI n) J rec2 t best (mI k)) Q := by
  obtain ⟨b1, b2, b3, b4, b5, b6, b7⟩ := id hC.1
  have hp8 := pow8 b1
  have e2 : t.1 0 2 = mI M := by rw [hm.2.1 2 (nT (by omega))]; exact b5
  have e1 : t.1 1 = σm.1 1 := hm.1 1 (by omega) (by unfold scrM; omega)
  unfold b_X12_empties_18
  rw [m_all e2, o_bind, sAllM (by omega), if_neg (by rw [mI_lt (by omega) (by omega)]; omega)]
  simp only [jn_eq, mI_succ]
  have body : (best = -1 ∨ mI (cnt (mI k) 8) < bc best) → ok ((f_X12_laySigns N t (mI k)).bind fun s19 => (f_X12_doEmpty N s19 11 (mI n)).bind fun v20 => if v20.1 = 0 then rec2 v20.2 best (mI (k + 1)) else rec2 v20.2 (mI k) (mI (k + 1))) Q := by
    intro hcons
    rw [ok_bind]
    refine ok_mono (m_laySigns hN) (fun s hs => ?_)
    rw [e1] at hs
    have hT : TM σm 11 (sgV (σm.1 1) (mI k)) s := by
      refine ⟨hs.1, (hm.trans hs.2).mono (fun c hc => ?_) (fun c hc => hc.elim id (fun h => h.elim))⟩
      rcases hc with hc | hc
      · exact hc
      · unfold scrM; omega
    rw [ok_bind]
    refine ok_mono (m_doEmpty hC hT (sgV_vok b1 b3 b7 (lo8_k b1 hk)) hn hN) (fun z hz => ?_)
    obtain ⟨hz, z2⟩ := hz
    rcases hz with ⟨z1, hz⟩ | ⟨z1, hz⟩
    · rw [z1, if_pos rfl]
      exact h2 (fun h => h.2.elim (fun h => n10 h.1) (fun h => hz h.2)) _ z2
    · rw [z1, if_neg n10]
      exact h1 hcons (Or.inr ⟨n10, hz⟩) _ z2
  by_cases hb : best = -1
  · rw [if_pos hb]
    exact body (Or.inl hb)
  · rw [if_neg hb, bc_f, o_bind, bc_f, o_bind, bc_k b1 hk]
    by_cases hc : mI (cnt (mI k) 8) < bc best
    · rw [if_pos hc]
      exact body (Or.inr hc)
    · rw [if_neg hc]
      exact h2 (fun h => h.1.elim hb hc) _ hm
theorem n_s19_ok (N j : Nat) (hN : 500 < N) : n_s19 N (Rel N j) (Rel N (j + 1)) := by
  intro σc σm h a2
  have h := h.thr
  refine two ?_
  unfold f_X12_empties f_X11_empties
  simp only [jn_eq]
  generalize u_pI σm 0 8 0 = s1 at h ⊢
  have hmono := h.mono
  obtain ⟨M, F, ρ, hC, hTo⟩ := h
  obtain ⟨b1, b2, b3, b4, b5, b6, b7⟩ := id hC.1
  rw [c_soon, m_soon, c_everybody b6.2.2.2.2.2.2.2.1]
  simp only [o_bind]
  by_cases c1 : a2 < 1
  · rw [if_pos c1, if_pos rfl, if_pos rfl, ok_some, ok_some]
    exact ⟨rfl, hmono⟩
  by_cases c2 : 20 < a2
  · rw [if_neg c1, if_pos c2, if_pos rfl, if_pos rfl, ok_some, ok_some]
    exact ⟨rfl, hmono⟩
  obtain ⟨n, hn0, hn, rfl⟩ := rng (p := a2) (lo := 1) (hi := 20) (by omega) (by omega) c1 c2
  rw [if_neg c1, if_neg c2, if_neg n10, if_neg n10]
  unfold f_X11_fewestSigns
  obtain ⟨r, hr, hr2⟩ := hC.hasR
  rw [ok_bind, ok_bind]
  refine ok_mono (c_useful hC hN) (fun z hz => ?_)
  obtain ⟨z1, z2⟩ := hz
  simp only [jn_eq]
  have e8 : z.2.1 32 8 = mI M := by rw [z2.1 32 (by unfold scr; omega)]; exact b6.2.2.2.2.2.2.2.1
  rw [e8]
  have hl := few_loop (P := fun a b => a.1 = b.1 ∧ Rel N (j + 1) a.2 b.2) (p1 := sAll M) (p5 := 1) (n := n) (vv := z) (J := fun (s3 : uS) (x4 : Int32) (x5 : Int32) => (if x4 ≤ 8 then ((f_X8_one N s3 (Int32.toInt64 x5)).bind fun s7 => some (x4, s7)) else (some ((-2), s3)) : Option (Int32 × uS))) (C := b_X12_empties_18 N (mI n) (fun (s4 : uS) (x5 : Int32) => (if x5 = (-1) then (some ((-2), s4)) else ((f_X12_tell N (u_pI s4 0 7 0) (Int32.toInt64 x5)).bind fun s8 => (f_J6_bitCount_0f7a4 N s8 x5).bind fun v9 => some (v9, s8)) : Option (Int32 × uS)))) hC z2 (mfr.rfl (S := scrM) (T := scrT) (σ := s1)) hr (by omega) (by omega) hN rfl z1 (fun _ => rfl) (fun rec2 t' best k Q ht hk h1 h2 => m_emptiesBody hC ht (by omega) hN hk h1 h2) (fun rec2 s' t' few found best hs ht hI => ?_)
  · refine ok_mono hl (fun a ha => by rw [ok_some]; exact ha)
  · unfold b_X12_empties_18
    have hp8 := pow8 b1
    have hpos : 0 < 2 ^ M := Nat.pow_pos (by omega)
    rw [m_all (by rw [ht.2.1 2 (nT (by omega))]; exact b5), o_bind, sAllM (by omega), if_pos (show mI (2 ^ M - 1) < mI (2 ^ M) by rw [mI_lt (by omega) (by omega)]; omega)]
    exact few_end hC hTo hs ht hI
