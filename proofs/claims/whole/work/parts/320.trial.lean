/-! PURE LAYER: the row on trial -/
def scr (a : Nat) : Prop := a = 19 ∨ a = 21 ∨ a = 25 ∨ a = 26 ∨ a = 30 ∨ a = 31 ∨ (38 ≤ a ∧ a < 44)
def scrM (c : Nat) : Prop := c = 5 ∨ c = 8 ∨ (10 ≤ c ∧ c ≤ 15) ∨ c = 17
def scrT (s : Nat) : Prop := T0 s ∨ s = 32
theorem T0_T {s : Nat} (h : T0 s) : scrT s := Or.inl h
theorem nT {s : Nat} (h : s < 10 ∨ (13 < s ∧ s < 18) ∨ (18 < s ∧ s < 32) ∨ 32 < s) : ¬ scrT s := by unfold scrT T0; omega
theorem mfr_of {S T : Nat → Prop} {σ s : uS} (h : fr S σ s) (h0 : ¬ S 0) : mfr S T σ s := ⟨fun c _ hs => h.1 c hs, fun t _ => by rw [h.1 0 h0], by rw [h.2], fun c t _ => by rw [h.2]⟩
section TR
variable {N j M F B : Nat} {ρ : Rho} {σc σm s t : uS} {v : Nat → Int32}
theorem RelC.cR {r : Nat} (hC : RelC N j M F ρ σc σm) (hr : σc.2.2 0 13 = some r) : cR N σc r ρ := by
  obtain ⟨-, -, -, -, -, r2, r', q, q', a1, a2, a3, a4, a5, -⟩ := hC
  rw [a1] at hr
  cases hr
  exact a5
theorem RelC.hasR (hC : RelC N j M F ρ σc σm) : ∃ r, σc.2.2 0 13 = some r ∧ isR r := by
  obtain ⟨-, -, -, -, -, r2, r', q, q', a1, a2, a3, a4, a5, -⟩ := hC
  exact ⟨r2, a1, a5.1⟩
theorem cK_scr (hC : RelC N j M F ρ σc σm) (hf : fr scr σc s) : cK σc s := by
  have hr := hC.2.2.2.2.2.r
  refine ⟨fun a ha => hf.1 a (by unfold coreC at ha; unfold scr; omega), fun r hr2 => ?_, by rw [hf.2]⟩
  have := hr r hr2
  exact ⟨hf.1 r (by unfold scr; omega), hf.1 (r + 1) (by unfold scr; omega)⟩
theorem mK_scr (hC : RelC N j M F ρ σc σm) (hm : mfr scrM scrT σm t) : mK σm t := by
  have hq := hC.2.2.2.2.2.q
  refine ⟨fun c hc => hm.1 c (by omega) (by unfold scrM; omega), fun s hs => hm.2.1 s (nT (by omega)), fun q hq2 => ?_, fun s hs => hm.2.2.2 0 s (by omega)⟩
  have := hq q hq2
  exact hm.1 q (by omega) (by unfold scrM; omega)
theorem rel_look2 (hC : RelC N j M F ρ σc σm) (hf : fr scr σc s) (hm : mfr scrM scrT σm t) (x y : Int64) : Rel N (j + 1) (cT2 s x y) (mT2 t x y) := ⟨M, F, ρ, (hC.to (cK_scr hC hf) (mK_scr hC hm)).told2 x y, rTold_2 x y⟩
theorem rel_look1 (hC : RelC N j M F ρ σc σm) (hf : fr scr σc s) (hm : mfr scrM scrT σm t) (x : Int64) : Rel N (j + 1) (cT1 s x) (mT1 t x) := ⟨M, F, ρ, (hC.to (cK_scr hC hf) (mK_scr hC hm)).told1 x, rTold_1 x⟩
theorem rel_look0 (hC : RelC N j M F ρ σc σm) (hTo : rTold σc σm) (hf : fr scr σc s) (hm : mfr scrM scrT σm t) : Rel N (j + 1) s t := ⟨M, F, ρ, hC.to (cK_scr hC hf) (mK_scr hC hm), hTo.to (by rw [hf.1 3 (by unfold scr; omega)]) (by rw [hf.2]) (by rw [hm.2.2.1]) (hm.2.1 7 (nT (by omega)))⟩
/-- the class's row on trial is v -/
def TC (M F : Nat) (σc σm : uS) (v : Nat → Int32) (s : uS) : Prop := cS s 38 M F v (σm.1 2) ∧ fr scr σc s
/-- the reference's row a is v -/
def TM (σm : uS) (a : Nat) (v : Nat → Int32) (t : uS) : Prop := mV t a v ∧ mfr scrM scrT σm t
theorem TC.ru {r : Nat} (h : TC M F σc σm v s) (hr : σc.2.2 0 13 = some r) : s.2.2 0 13 = some r := by rw [h.2.2]; exact hr
theorem TC.start (hC : RelC N j M F ρ σc σm) (hf : fr scr σc s) : ok (f_X7_copy N s 38 32) (fun s2 => TC M F σc σm (σm.1 1) s2) := by
  obtain ⟨⟨b1, b2, b3, b4, b5, b6, b7⟩, -⟩ := hC
  refine ok_mono (c_copy (by omega) (by omega) (by omega) (by omega) (by omega) (by omega) (by omega) (cS_eq b6 (fun a x y => hf.1 a (by unfold scr; omega))) b1 b3) (fun s2 hs => ?_)
  refine ⟨hs.1, (hf.trans hs.2).mono (fun a ha => ?_)⟩
  rcases ha with ha | ha
  · exact ha
  · unfold scr; omega
theorem TM.start {a : Nat} (ha : a = 11 ∨ a = 12) (hm : mfr scrM scrT σm t) (hN : 500 < N) : ok (f_X12_lay N t 1 a 0) (fun t2 => TM σm a (σm.1 1) t2 ∧ ∀ c, c ≠ a → t2.1 c = t.1 c) := by
  have h : a = 1 ∨ a = 10 ∨ a = 11 ∨ a = 12 := by omega
  refine ok_mono (m_lay (o := 0) (zv (a := 1) (Or.inl rfl)) (zv h) (by omega) (by omega) (by omega) (by omega) (by omega) hN) (fun t2 ht => ?_)
  refine ⟨⟨fun k hk => ?_, (hm.trans (mfr_of (T := fun _ => False) ht.2 (by omega))).mono (fun c hc => ?_) (fun c hc => ?_)⟩, fun c hc => ht.2.1 c hc⟩
  · rw [ht.1, if_pos (by omega), hm.1 1 (by omega) (by unfold scrM; omega)]; rfl
  · rcases hc with hc | hc
    · exact hc
    · unfold scrM; omega
  · rcases hc with hc | hc
    · exact hc
    · exact hc.elim
theorem TC.cross {r n : Nat} (h : TC M F σc σm v s) (hC : RelC N j M F ρ σc σm) (hr : σc.2.2 0 13 = some r) (hv : vok B M F v) (hn : n < 500) (hN : 500 < N) : ok (f_X7_cross N s 38 (mI n) r) (fun z => z.1 = chgN ρ (σm.1 2) M F v n ∧ TC M F σc σm (crossN ρ (σm.1 2) M F v n) z.2) := by
  have hR := hC.cR hr
  have hr2 := hR.1
  obtain ⟨⟨b1, b2, b3, b4, b5, b6, b7⟩, -⟩ := hC
  refine ok_mono (c_cross (by omega) (by omega) (by omega) (hR.fr h.2 (by unfold scr; omega) (by unfold scr; omega)) h.1 hv b1 b3 hn hN) (fun z hz => ⟨hz.1, hz.2.1, (h.2.trans hz.2.2).mono (fun a ha => ?_)⟩)
  rcases ha with ha | ha
  · exact ha
  · unfold scr; omega
theorem TC.turn {r : Nat} (h : TC M F σc σm v s) (hC : RelC N j M F ρ σc σm) (hr : σc.2.2 0 13 = some r) (hN : 500 < N) : ok (f_X7_turn N s 38 r) (fun z => z.1 = sMov ρ v (σm.1 2) M M ∧ TC M F σc σm (turnV ρ v (σm.1 2) M) z.2) := by
  have hR := hC.cR hr
  have hr2 := hR.1
  obtain ⟨⟨b1, b2, b3, b4, b5, b6, b7⟩, -⟩ := hC
  refine ok_mono (c_turn (by omega) (by omega) (by omega) (hR.fr h.2 (by unfold scr; omega) (by unfold scr; omega)) h.1 b1 b3 hN) (fun z hz => ⟨hz.1, hz.2.1, (h.2.trans hz.2.2).mono (fun a ha => ?_)⟩)
  rcases ha with ha | ha
  · exact ha
  · unfold scr; omega
theorem TM.men {a : Nat} (h : TM σm a v t) (hC : RelC N j M F ρ σc σm) : t.1 0 2 = mI M := by rw [h.2.2.1 2 (nT (by omega))]; exact hC.1.2.2.2.2.1
theorem TM.fur {a : Nat} (h : TM σm a v t) (hC : RelC N j M F ρ σc σm) : t.1 0 1 = mI F := by rw [h.2.2.1 1 (nT (by omega))]; exact hC.1.2.2.2.1
theorem TM.edg {a : Nat} (h : TM σm a v t) : t.1 2 = σm.1 2 := h.2.1 2 (by omega) (by unfold scrM; omega)
theorem TM.mR {a : Nat} (h : TM σm a v t) (hC : RelC N j M F ρ σc σm) : mR N t ρ := hC.2.2.2.2.2.mR.fr h.2 (by unfold scrM; omega) (by unfold scrM; omega) (nT (by omega))
theorem TM.cross {a : Nat} (h : TM σm a v t) (ha : a = 11 ∨ a = 12) (hC : RelC N j M F ρ σc σm) (hv : vok B M F v) (hN : 500 < N) : ok (f_X12_goCrossing N t a) (fun z => z.1 = chg ρ v (σm.1 2) M F ∧ TM σm a (crossV ρ v (σm.1 2) M F) z.2) := by
  have h4 : a = 1 ∨ a = 10 ∨ a = 11 ∨ a = 12 := by omega
  have he := h.edg
  refine ok_mono (m_goCrossing h4 (h.men hC) (h.fur hC) hC.1.1 hC.1.2.2.1 h.1 hv (h.mR hC) hN) (fun z hz => ?_)
  rw [he] at hz
  refine ⟨hz.1, hz.2.1, (h.2.trans hz.2.2).mono (fun c hc => ?_) (fun c hc => ?_)⟩
  · rcases hc with hc | hc
    · exact hc
    · unfold scrM; omega
  · exact hc.elim id T0_T
theorem TM.crosses {a n : Nat} (h : TM σm a v t) (ha : a = 11 ∨ a = 12) (hC : RelC N j M F ρ σc σm) (hv : vok B M F v) (hn : n < 500) (hN : 500 < N) : ok (f_X12_goCrossings N t a (mI n)) (fun z => z.1 = chgN ρ (σm.1 2) M F v n ∧ TM σm a (crossN ρ (σm.1 2) M F v n) z.2 ∧ ∀ c, c ≠ 0 → c ≠ a → c ≠ 8 → c ≠ 13 → z.2.1 c = t.1 c) := by
  have h4 : a = 1 ∨ a = 10 ∨ a = 11 ∨ a = 12 := by omega
  have he := h.edg
  refine ok_mono (m_goCrossings h4 (h.men hC) (h.fur hC) hC.1.1 hC.1.2.2.1 h.1 hv (h.mR hC) hn hN) (fun z hz => ?_)
  rw [he] at hz
  refine ⟨hz.1, ⟨hz.2.1, (h.2.trans hz.2.2).mono (fun c hc => ?_) (fun c hc => ?_)⟩, fun c x y z w => hz.2.2.1 c x (by omega)⟩
  · rcases hc with hc | hc
    · exact hc
    · unfold scrM; omega
  · exact hc.elim id T0_T
theorem TC.inside (h : TC M F σc σm v s) (hM8 : M ≤ 8) (hN : 500 < N) : f_X7_inside N s 38 = some (sIn v (σm.1 2) M) := by rw [c_inside (by omega) (by omega) (by omega) h.1.2.2.2.2.2.2.2.1 hM8 hN, sIn_cS h.1]
theorem TC.many (h : TC M F σc σm v s) (hM8 : M ≤ 8) (hN : 500 < N) : f_X7_howManyIn N s 38 = some (bc (sIn v (σm.1 2) M)) := by rw [c_howManyIn (by omega) (by omega) (by omega) h.1.2.2.2.2.2.2.2.1 hM8 hN, sIn_cS h.1]
theorem TC.bel (h : TC M F σc σm v s) (hM8 : M ≤ 8) (hN : 500 < N) : f_X7_beliefOfAll N s 38 = some (sSum v M) := by
  rw [c_beliefOfAll (by omega) (by omega) (by omega) h.1.2.2.2.2.2.2.2.1 hM8 hN, sSum_congr h.1.1]
theorem TC.corn (h : TC M F σc σm v s) (h1 : 1 ≤ F) (hF16 : F ≤ 16) (hN : 500 < N) : f_X7_cornOfAll N s 38 = some (sSum (fun j => v (16 + j)) F) := by
  have h5 := h.1.2.2.2.2.1
  have := c_cornOf (N := N) (i := 38) (L := 0) (n := F) (by omega) (by omega) (by omega) h5 hF16 (by omega) (by omega) hN
  unfold f_X7_cornOfAll
  rw [h5, mI_pred (by omega) (by omega)]
  rw [show 0 + F - 1 = F - 1 by omega] at this
  rw [show (0 : Int32) = mI 0 from rfl, this, o_bind]
  congr 1
  exact sSum_congr (fun k hk => by rw [Nat.zero_add]; exact h.1.2.2.2.1 k hk)
theorem TM.inB {a : Nat} (h : TM σm a v t) (ha : a = 11 ∨ a = 12) (hC : RelC N j M F ρ σc σm) (hN : 500 < N) : f_X12_inBits N t a = some (sIn v (σm.1 2) M) := by
  rw [m_inBits (by omega) (h.men hC) hC.1.1 hN, sIn_mV h.1 hC.1.1, h.edg]
theorem TM.bel {a : Nat} (h : TM σm a v t) (ha : a = 11 ∨ a = 12) (hC : RelC N j M F ρ σc σm) (hN : 500 < N) : f_X12_beliefs N t a (sAll M) = some (sSum v M) := by
  have hM8 := hC.1.1
  rw [m_beliefs (by omega) (h.men hC) hM8 hN, sBel_all hM8 M (Nat.le_refl _), sSum_congr (fun i hi => h.1 i (by omega))]
theorem TM.corn {a : Nat} (h : TM σm a v t) (ha : a = 11 ∨ a = 12) (hC : RelC N j M F ρ σc σm) (hN : 500 < N) : f_X12_corn N t a 0 ((t.1 0 1) - 1) = some (sSum (fun j => v (16 + j)) F) := by
  have h1 := hC.1.2.1
  have h16 := hC.1.2.2.1
  have := m_corn (N := N) (σ := t) (a := a) (L := 0) (n := F) (by omega) (by omega) (by omega) hN
  rw [show 0 + F - 1 = F - 1 by omega] at this
  rw [h.fur hC, mI_pred (by omega) (by omega), show (0 : Int32) = mI 0 from rfl, this]
  congr 1
  exact sSum_congr (fun k hk => by rw [Nat.zero_add]; exact h.1 (16 + k) (by omega))
theorem TC.mrk (h : TC M F σc σm v s) : fr scr σc s := h.2
theorem TM.mrk {a : Nat} (h : TM σm a v t) : mfr scrM scrT σm t := h.2
/-- told things touch neither -/
theorem TM.p7 {a : Nat} {x : Int32} (h : TM σm a v t) (ha : a ≠ 0) : mV (u_pI t 0 7 x) a v := fun k hk => by rw [p_Ia ha]; exact h.1 k hk
end TR
theorem upV_self {v : Nat → Int32} {k : Nat} : upV v k (v k) = v := by
  funext i
  unfold upV
  by_cases h : i = k
  · rw [if_pos h, h]
  · rw [if_neg h]
theorem c_try {N j M F B n : Nat} {ρ : Rho} {σc σm s : uS} {x : Int32} (hC : RelC N j M F ρ σc σm) (hf : fr scr σc s) (hv : vok B M F (upV (σm.1 1) 33 x)) (hn : n < 500) (hN : 500 < N) : ok (f_X11_tryCrossings N s (mI n) x) (fun z => z.1 = crossN ρ (σm.1 2) M F (upV (σm.1 1) 33 x) n 36 - σm.1 1 36 ∧ TC M F σc σm (crossN ρ (σm.1 2) M F (upV (σm.1 1) 33 x) n) z.2) := by
  unfold f_X11_tryCrossings
  rw [ok_bind]
  refine ok_mono (TC.start hC hf) (fun s2 hs => ?_)
  simp only [u_jn]
  obtain ⟨r, hr, hr2⟩ := hC.hasR
  have hS : TC M F σc σm (upV (σm.1 1) 33 x) (u_pI s2 38 7 x) := ⟨cS_up hC.1.1 hC.1.2.2.1 hs.1 (Or.inl ⟨rfl, Or.inr (Or.inl ⟨rfl, rfl⟩)⟩), hs.2.pI (by unfold scr; omega)⟩
  rw [hS.ru hr, o_bind, o_ck hr2, ok_bind]
  refine ok_mono (hS.cross hC hr hv hn hN) (fun z hz => ?_)
  rw [ok_some]
  have e32 : z.2.1 32 = σc.1 32 := hz.2.2.1 32 (by unfold scr; omega)
  refine ⟨?_, hz.2⟩
  rw [hz.2.1.2.2.2.2.2.2.2.2.2.2, e32, hC.1.2.2.2.2.2.1.2.2.2.2.2.2.2.2.2.2]
theorem n_s15_ok (N j : Nat) (hN : 500 < N) : n_s15 N (Rel N j) (Rel N (j + 1)) := by
  intro σc σm h a1
  have h := h.thr
  refine two ?_
  unfold f_X12_later f_X11_later
  simp only [u_jn]
  generalize u_pI σm 0 8 0 = s1 at h ⊢
  have hmono := h.mono
  obtain ⟨M, F, ρ, hC, hTo⟩ := h
  obtain ⟨b1, b2, b3, b4, b5, b6, b7⟩ := id hC.1
  have v11 : (11 : Nat) = 1 ∨ (11 : Nat) = 10 ∨ (11 : Nat) = 11 ∨ (11 : Nat) = 12 := by omega
  rw [m_in, o_bind]
  by_cases c1 : a1 < 0
  · rw [if_pos c1, if_pos c1, if_pos rfl, ok_some, ok_some]
    exact ⟨rfl, hmono⟩
  by_cases c2 : 99 < a1
  · rw [if_neg c1, if_neg (Int32.not_le.mpr c2), if_neg c1, if_pos c2, if_pos rfl, ok_some, ok_some]
    exact ⟨rfl, hmono⟩
  obtain ⟨n, -, hn, rfl⟩ := rng (p := a1) (lo := 0) (hi := 99) (by omega) (by omega) c1 c2
  rw [if_neg c1, if_pos (Int32.not_lt.mp c2), if_neg c1, if_neg c2, if_neg n10, ok_bind]
  have e33 : σc.1 32 7 = s1.1 1 33 := b6.2.2.2.2.2.2.1
  have ht := c_try (N := N) (B := 600 * j) (n := n) (x := σc.1 32 7) hC fr.rfl (by rw [e33, upV_self]; exact b7) (by omega) hN
  rw [e33, upV_self] at ht
  rw [e33]
  refine ok_mono ht (fun z hz => ?_)
  obtain ⟨z1, z2⟩ := hz
  have z3 : TC M F σc s1 (crossN ρ (s1.1 2) M F (s1.1 1) n) z.2 := z2
  have hin : ∀ x y, f_X7_inside N (cT2 z.2 x y) 38 = some (sIn (crossN ρ (s1.1 2) M F (s1.1 1) n) (s1.1 2) M) := fun x y => by
    have hs2 : cS (cT2 z.2 x y) 38 M F (crossN ρ (s1.1 2) M F (s1.1 1) n) (s1.1 2) := cS_eq z2.1 (fun a _ _ => cT2_a (by omega))
    rw [c_inside (by omega) (by omega) (by omega) hs2.2.2.2.2.2.2.2.1 b1 hN, sIn_cS hs2]
  rw [z2.bel b1 hN, o_bind, c_two, o_bind, hin, o_bind, ok_some, ok_bind]
  refine ok_mono (TM.start (Or.inl rfl) mfr.rfl hN) (fun t1 ht1 => ?_)
  rw [ok_bind]
  refine ok_mono (ht1.1.crosses (Or.inl rfl) hC b7 (show n < 500 by omega) hN) (fun w hw => ?_)
  obtain ⟨w1, w2, w3⟩ := hw
  have eM : (u_pI w.2 0 7 0).1 0 2 = mI M := by rw [p_Is (by omega)]; exact w2.men hC
  have eB : f_X12_beliefs N (u_pI w.2 0 7 0) 11 (sAll M) = some (sSum (crossN ρ (s1.1 2) M F (s1.1 1) n) M) := by
    rw [m_beliefs v11 eM b1 hN, sBel_all b1 M (Nat.le_refl _), p_Ia (by omega), sSum_congr (fun i hi => w2.1 i (by omega))]
  have eI : ∀ x y, f_X12_inBits N (mT2 w.2 x y) 11 = some (sIn (crossN ρ (s1.1 2) M F (s1.1 1) n) (s1.1 2) M) := fun x y => by
    rw [m_inBits v11 (by rw [mT2_s (by omega)]; exact w2.men hC) b1 hN, mT2_a (by omega), mT2_a (by omega), sIn_mV w2.1 b1, w2.edg]
  have e36 : w.2.1 11 36 = crossN ρ (s1.1 2) M F (s1.1 1) n 36 := w2.1 36 (by omega)
  have e1 : w.2.1 1 36 = s1.1 1 36 := by rw [w2.2.1 1 (by omega) (by unfold scrM; omega)]
  simp (disch := omega) only [u_jn, o_bind, o_nck, o_ckT, not_false_eq_true, mI_le, mI_lt, mI_eq, mI_succ, mI_8, mI_16, mI_add, i10, eq_self, if_true, if_false, Bool.false_eq_true, m_all eM, eB, m_tell0, m_tell1, vr36 v11, vr36 (Or.inl (Eq.refl 1)), mT1_a, e36, e1, eI, ok_some]
  refine ⟨trivial, ?_⟩
  rw [z1]
  exact rel_look2 hC z2.2 w2.2 _ _
