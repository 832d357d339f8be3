/-! PURE LAYER: settles -/
def pk (v : Nat → Int32) : Nat → Int32
  | 0 => 0
  | p + 1 => (pk v p <<< (4 &&& 31)) ||| v p
theorem tb_shl4 {x : Int32} {i : Nat} (hi : i < 32) : tb (x <<< (4 &&& 31)) i = (!decide (i < 4) && tb x (i - 4)) := by
  have e : (x <<< (4 &&& 31 : Int32)).toBitVec = x.toBitVec <<< 4 := rfl
  unfold tb
  rw [e, BitVec.getLsbD_shiftLeft]
  simp [hi]
theorem dig4 : ∀ a b : Fin 10, (∀ i : Fin 4, tb (mI a.val) i.val = tb (mI b.val) i.val) → a = b := by decide +kernel
theorem dig_hi : ∀ a : Fin 10, ∀ i : Fin 32, 4 ≤ i.val → tb (mI a.val) i.val = false := by decide +kernel
theorem pk_inj {v v' : Nat → Int32} : ∀ p, p ≤ 8 → (∀ q, q < p → dg (v q) ∧ dg (v' q)) → (∀ i, i < 4 * p → tb (pk v p) i = tb (pk v' p) i) → ∀ q, q < p → v q = v' q
  | 0, _, _, _, q, hq => absurd hq (by omega)
  | p + 1, hp, hd, hb, q, hq => by
    obtain ⟨⟨a, ha, ea⟩, ⟨b, hb', eb⟩⟩ := hd p (by omega)
    have hs : ∀ (w : Nat → Int32) i, i < 32 → tb (pk w (p + 1)) i = ((!decide (i < 4) && tb (pk w p) (i - 4)) || tb (w p) i) := fun w i hi => by
      show tb ((pk w p <<< (4 &&& 31)) ||| w p) i = _
      rw [tb_or, tb_shl4 hi]
    by_cases hqp : q = p
    · subst hqp
      have := dig4 ⟨a, by omega⟩ ⟨b, by omega⟩ (fun i => by
        have h := hb i.val (by omega)
        rw [hs v _ (by omega), hs v' _ (by omega), ea, eb] at h
        simpa using h)
      rw [ea, eb]
      exact congrArg mI (congrArg Fin.val this)
    · refine pk_inj p (by omega) (fun q hq => hd q (by omega)) (fun i hi => ?_) q (by omega)
      have h := hb (i + 4) (by omega)
      rw [hs v _ (by omega), hs v' _ (by omega), ea, eb, dig_hi ⟨a, by omega⟩ ⟨i + 4, by omega⟩ (by show 4 ≤ i + 4; omega), dig_hi ⟨b, by omega⟩ ⟨i + 4, by omega⟩ (by show 4 ≤ i + 4; omega)] at h
      have hn : ¬ i + 4 < 4 := by omega
      simpa [hn] using h
theorem pk_congr {v v' : Nat → Int32} : ∀ p, (∀ q, q < p → v q = v' q) → pk v p = pk v' p
  | 0, _ => rfl
  | p + 1, h => by show (pk v p <<< (4 &&& 31)) ||| v p = (pk v' p <<< (4 &&& 31)) ||| v' p; rw [pk_congr p (fun q hq => h q (by omega)), h p (by omega)]
theorem pk_iff {v v' : Nat → Int32} {M : Nat} (hM : M ≤ 8) (hd : ∀ q, q < M → dg (v q) ∧ dg (v' q)) : pk v M = pk v' M ↔ ∀ q, q < M → v q = v' q := ⟨fun h => pk_inj M hM hd (fun i _ => by rw [h]), pk_congr M⟩
def cdN (d : Nat) (b : Nat → Nat) : Nat → Nat
  | 0 => d
  | p + 1 => 10 * cdN d b p + b p
theorem cdN_inj {d d' : Nat} {b b' : Nat → Nat} : ∀ p, (∀ q, q < p → b q ≤ 9 ∧ b' q ≤ 9) → (cdN d b p = cdN d' b' p ↔ d = d' ∧ ∀ q, q < p → b q = b' q)
  | 0, _ => ⟨fun h => ⟨h, fun q hq => absurd hq (by omega)⟩, fun h => h.1⟩
  | p + 1, h => by
    have ih := cdN_inj (d := d) (d' := d') (b := b) (b' := b') p (fun q hq => h q (by omega))
    have h0 := h p (by omega)
    have e : ∀ d (b : Nat → Nat), cdN d b (p + 1) = 10 * cdN d b p + b p := fun _ _ => rfl
    rw [e, e]
    constructor
    · intro hh
      obtain ⟨g1, g2⟩ := ih.mp (by omega)
      refine ⟨g1, fun q hq => ?_⟩
      by_cases hqp : q = p
      · rw [hqp]; omega
      · exact g2 q (by omega)
    · rintro ⟨g1, g2⟩
      have := ih.mpr ⟨g1, fun q hq => g2 q (by omega)⟩
      have := g2 p (by omega)
      omega
theorem cdN_lt {d : Nat} {b : Nat → Nat} (hd : d < 7) (hb : ∀ q, b q ≤ 9) : ∀ p, cdN d b p < 7 * 10 ^ p
  | 0 => by show d < 7 * 10 ^ 0; omega
  | p + 1 => by
    have := cdN_lt hd hb p
    have := hb p
    show 10 * cdN d b p + b p < 7 * 10 ^ (p + 1)
    rw [Nat.pow_succ]
    omega
def dgn (x : Int32) : Nat := min 9 x.toNatClampNeg
theorem dgn_le (x : Int32) : dgn x ≤ 9 := Nat.min_le_left _ _
theorem dgn_eq {x : Int32} (h : dg x) : x = mI (dgn x) := by
  obtain ⟨n, hn, rfl⟩ := h
  unfold dgn
  rw [mI_nat (by omega), show min 9 n = n by omega]
theorem c_packed {N M F : Nat} {s : uS} {v e : Nat → Int32} (hS : cS s 38 M F v e) (hM8 : M ≤ 8) (hN : 500 < N) : f_X7_packedBelief N s 38 = some (pk v M) := by
  unfold f_X7_packedBelief
  simp only [jn_eq]
  refine lp2_eqa (pk v) mI M N _ (by omega) rfl rfl (fun k rec hk => ?_) (fun rec => ?_)
  · unfold b_X7_packedBelief_4
    rw [hS.2.2.2.2.2.2.2.1, if_neg (mnle (by omega) (by omega) hk), sr_2 (by omega) (by omega) (by omega) (by omega), o_bind, hS.1 k hk]
    simp only [jn_eq, mI_succ]
    rfl
  · unfold b_X7_packedBelief_4
    rw [hS.2.2.2.2.2.2.2.1, if_pos (mle (by omega) (by omega) (Nat.le_refl _))]
theorem m_coded {N M d : Nat} {t : uS} {v : Nat → Int32} (hV : mV t 11 v) (hM : t.1 0 2 = mI M) (hM8 : M ≤ 8) (hd : ∀ q, q < M → dg (v q)) (h35 : v 35 = mI d) (hdl : d < 1000000) (hN : 500 < N) : f_X12_coded N t 11 = some (mL (cdN (d % 7) (fun q => dgn (v q)) M)) := by
  have v11 : (11 : Nat) = 1 ∨ (11 : Nat) = 10 ∨ (11 : Nat) = 11 ∨ (11 : Nat) = 12 := by omega
  unfold f_X12_coded
  simp only [jn_eq]
  rw [vr35 v11, o_bind, hV 35 (by omega), h35, show (7 : Int32) = mI 7 from rfl, mI_rem hdl (by omega) (by omega), mI_L (by omega)]
  refine lp2_eqa (fun p => mL (cdN (d % 7) (fun q => dgn (v q)) p)) mI M N _ (by omega) rfl rfl (fun k rec hk => ?_) (fun rec => ?_)
  · unfold b_X12_coded_12
    have hk9 : dgn (v k) ≤ 9 := Nat.min_le_left _ _
    rw [hM, if_neg (mnle (by omega) (by omega) hk), vr v11 (by omega), o_bind, hV k (by omega), dgn_eq (hd k hk), mI_L (by omega)]
    simp only [jn_eq, mI_succ]
    rw [show (10 : Int64) = mL 10 from rfl, mL_mul, mL_add]
    have e : dgn (mI (dgn (v k))) = dgn (v k) := by rw [← dgn_eq (hd k hk)]
    rfl
  · unfold b_X12_coded_12
    rw [hM, if_pos (mle (by omega) (by omega) (Nat.le_refl _))]
/-- the class's first place that is like the last -/
theorem c_first {N k : Nat} {s : uS} (hk : k ≤ 200) (hN : 500 < N) : ∃ r, r ≤ k ∧ f_X11_firstLike N s (mI k) = some (mI r) ∧ (∀ i, i < r → ¬ ((k - i) % 7 = 0 ∧ s.1 19 i = s.1 19 k)) ∧ (r < k → (k - r) % 7 = 0 ∧ s.1 19 r = s.1 19 k) := by
  have h : ok (f_X11_firstLike N s (mI k)) (fun z => ∃ r, r ≤ k ∧ z = mI r ∧ (∀ i, i < r → ¬ ((k - i) % 7 = 0 ∧ s.1 19 i = s.1 19 k)) ∧ (r < k → (k - r) % 7 = 0 ∧ s.1 19 r = s.1 19 k)) := by
    unfold f_X11_firstLike
    simp only [jn_eq]
    rw [show (7 : Int32) = mI 7 from rfl, mI_rem (by omega) (by omega) (by omega)]
    refine lp1_ok (fun t y => t ≤ k / 7 ∧ y = mI (k % 7 + 7 * t) ∧ ∀ i, i < k % 7 + 7 * t → ¬ ((k - i) % 7 = 0 ∧ s.1 19 i = s.1 19 k)) (k / 7) N _ (by omega) ?_ ⟨by omega, rfl, fun i hi => by omega⟩
    rintro t y rec ht ⟨-, rfl, hg⟩ hrec
    unfold b_X11_firstLike_5
    by_cases hlt : t < k / 7
    · rw [if_neg (mnle (by omega) (by omega) (by omega)), cr_19 (by omega), cr_19 (by omega), o_bind, o_bind]
      by_cases hs : s.1 19 (k % 7 + 7 * t) = s.1 19 k
      · rw [if_pos hs, ok_some]
        exact ⟨k % 7 + 7 * t, by omega, rfl, hg, fun _ => ⟨by omega, hs⟩⟩
      · rw [if_neg hs, jn_eq, show (7 : Int32) = mI 7 from rfl, mI_add]
        refine hrec _ hlt ⟨by omega, by rw [show k % 7 + 7 * t + 7 = k % 7 + 7 * (t + 1) by omega], fun i hi hh => ?_⟩
        by_cases hi2 : i < k % 7 + 7 * t
        · exact hg i hi2 hh
        · have : i = k % 7 + 7 * t := by omega
          rw [this] at hh
          exact hs hh.2
    · have : k % 7 + 7 * t = k := by omega
      rw [this] at hg ⊢
      rw [if_pos (mle (by omega) (by omega) (Nat.le_refl _)), ok_some]
      exact ⟨k, Nat.le_refl _, rfl, hg, fun h => absurd h (by omega)⟩
  obtain ⟨z, h1, r, h2, rfl, h3⟩ := h
  exact ⟨r, h2, h1, h3⟩
def SM (σm t : uS) : Prop := (∀ c, c ≠ 0 → ¬ scrM c → t.1 c = σm.1 c) ∧ (∀ s, ¬ scrT s → t.1 0 s = σm.1 0 s) ∧ (∀ c, c ≠ 15 → t.2.1 c = σm.2.1 c) ∧ ∀ c s, ¬ (c = 0 ∧ s = 9) → t.2.2 c s = σm.2.2 c s
theorem SM.mK {N j M F : Nat} {ρ : Rho} {σc σm t : uS} (hC : RelC N j M F ρ σc σm) (h : SM σm t) : mK σm t := by
  have hq := hC.2.2.2.2.2.q
  refine ⟨fun c hc => h.1 c (by omega) (by unfold scrM; omega), fun s hs => h.2.1 s (nT (by omega)), fun q hq2 => ?_, fun s hs => h.2.2.2 0 s (by omega)⟩
  have := hq q hq2
  exact h.1 q (by omega) (by unfold scrM; omega)
theorem turnN_dg {ρ : Rho} {e : Nat → Int32} {M : Nat} {v : Nat → Int32} (h : ∀ q, q < M → dg (v q)) : ∀ k q, q < M → dg (turnN ρ e M v k q)
  | 0, q, hq => h q hq
  | k + 1, q, hq => by show dg (turnV ρ _ e M q); unfold turnV; rw [if_pos hq]; exact dg_clamp _
theorem turnN_day {ρ : Rho} {e : Nat → Int32} {M d : Nat} {v : Nat → Int32} (hM : M ≤ 8) (h : v 35 = mI d) : ∀ k, turnN ρ e M v k 35 = mI (d + k)
  | 0 => h
  | k + 1 => by show turnV ρ _ e M 35 = _; unfold turnV; rw [if_neg (by omega), if_neg (by omega), if_pos rfl, turnN_day hM h k]; exact mI_succ _
theorem n_s16_ok (N j : Nat) (hN : 500 < N) (hj : j < 1000) : n_s16 N (Rel N j) (Rel N (j + 1)) := by
  intro σc σm h
  have h := h.thr
  refine two ?_
  unfold f_X12_settles f_X11_settles
  simp only [jn_eq]
  generalize u_pI σm 0 8 0 = s1 at h ⊢
  have hmono := h.mono
  obtain ⟨M, F, ρ, hC, hTo⟩ := h
  obtain ⟨b1, b2, b3, b4, b5, b6, b7⟩ := id hC.1
  have v11 : (11 : Nat) = 1 ∨ (11 : Nat) = 10 ∨ (11 : Nat) = 11 ∨ (11 : Nat) = 12 := by omega
  obtain ⟨r, hr, hr2⟩ := hC.hasR
  have hcR := hC.cR hr
  have hr3 := hcR.1
  rw [ok_bind]
  refine ok_mono (TC.start hC fr.rfl) (fun s hs => ?_)
  rw [ok_swap, ok_bind]
  refine ok_mono (TM.start (Or.inl rfl) mfr.rfl hN) (fun t ht => ?_)
  rw [vw34 v11, o_bind, ok_swap]
  have hs0 : TC M F σc s1 (upV (s1.1 1) 34 0) (u_pI s 38 9 0) := ⟨cS_up b1 b3 hs.1 (Or.inl ⟨rfl, Or.inr (Or.inr (Or.inl ⟨rfl, rfl⟩))⟩), hs.2.pI (by unfold scr; omega)⟩
  have ht0 : TM s1 11 (upV (s1.1 1) 34 0) (u_pI t 11 34 0) := ht.1.up
  have hv0 : vok (600 * j) M F (upV (s1.1 1) 34 0) := vok_sig b1 b3 b7 lo8_0
  generalize upV (s1.1 1) 34 0 = v at hs0 ht0 hv0
  generalize u_pI s 38 9 0 = sA at hs0
  generalize u_pI t 11 34 0 = tA at ht0
  obtain ⟨d, hd1, hd2⟩ := hv0.2.2.2.2
  have hdg : ∀ k q, q < M → dg (turnN ρ (s1.1 2) M v k q) := turnN_dg hv0.1
  have hday : ∀ k, turnN ρ (s1.1 2) M v k 35 = mI (d + k) := turnN_day b1 hd2
  have hag : ∀ k, agB (turnN ρ (s1.1 2) M v k) (crossN ρ (s1.1 2) M F v k) := agB_N b1 b3
  let cv : Nat → Int64 := fun k => mL (cdN ((d + k) % 7) (fun q => dgn (crossN ρ (s1.1 2) M F v k q)) M)
  have key : ∀ i k, i ≤ k → k ≤ 200 → (cv i = cv k ↔ ((k - i) % 7 = 0 ∧ pk (turnN ρ (s1.1 2) M v i) M = pk (turnN ρ (s1.1 2) M v k) M)) := by
    intro i k hik hk
    have hlt : ∀ k, cdN ((d + k) % 7) (fun q => dgn (crossN ρ (s1.1 2) M F v k q)) M < 2 ^ 62 := fun k => by
      have h1 := cdN_lt (d := (d + k) % 7) (b := fun q => dgn (crossN ρ (s1.1 2) M F v k q)) (Nat.mod_lt _ (by omega)) (fun q => Nat.min_le_left _ _) M
      have h2 : 10 ^ M ≤ 10 ^ 8 := Nat.pow_le_pow_right (by omega) b1
      have h3 : (10 : Nat) ^ 8 = 100000000 := by decide
      omega
    show mL _ = mL _ ↔ _
    rw [mL_eq (hlt i) (hlt k), cdN_inj M (fun q _ => ⟨dgn_le _, dgn_le _⟩), pk_iff b1 (fun q hq => ⟨hdg i q hq, hdg k q hq⟩)]
    have e : ∀ q, q < M → (dgn (crossN ρ (s1.1 2) M F v i q) = dgn (crossN ρ (s1.1 2) M F v k q) ↔ turnN ρ (s1.1 2) M v i q = turnN ρ (s1.1 2) M v k q) := fun q hq => by
      rw [← (hag i).1 q (by omega), ← (hag k).1 q (by omega)]
      exact ⟨fun h => by rw [dgn_eq (hdg i q hq), dgn_eq (hdg k q hq), h], fun h => by rw [h]⟩
    constructor
    · rintro ⟨g1, g2⟩
      exact ⟨by omega, fun q hq => (e q hq).mp (g2 q hq)⟩
    · rintro ⟨g1, g2⟩
      exact ⟨by omega, fun q hq => (e q hq).mpr (g2 q hq)⟩
  refine lpr22 (fun k s x t y => k ≤ 201 ∧ x = mI k ∧ y = mI k ∧ TC M F σc s1 (turnN ρ (s1.1 2) M v k) s ∧ mV t 11 (crossN ρ (s1.1 2) M F v k) ∧ SM s1 t ∧ ∀ i, i < k → s.1 19 i = pk (turnN ρ (s1.1 2) M v i) M ∧ t.2.1 15 i = cv i) 201 N _ _ _ _ (by omega) ?_ ⟨by omega, rfl, rfl, hs0, ht0.1, ⟨ht0.2.1, ht0.2.2.1, fun c _ => by rw [ht0.2.2.2.1], ht0.2.2.2.2⟩, fun i hi => absurd hi (by omega)⟩
  clear hs ht hs0 ht0 s t sA tA
  rintro k s x t y rec rec2 hk ⟨-, rfl, rfl, hs, hV, hSM, hi⟩ hrec
  unfold b_X11_settles_21 b_X12_settles_27
  by_cases hlt : k < 201
  · have eM : t.1 0 2 = mI M := by rw [hSM.2.1 2 (nT (by omega))]; exact b5
    have eF : t.1 0 1 = mI F := by rw [hSM.2.1 1 (nT (by omega))]; exact b4
    have hvk := vok_crossN (ρ := ρ) (e := s1.1 2) b1 b3 hv0 k
    rw [if_neg (lnlt 200 200 rfl (by omega) (by omega) (by omega)), if_neg (lnlt 200 200 rfl (by omega) (by omega) (by omega)), c_packed hs.1 b1 hN, o_bind, cw_19 (by omega), o_bind, m_coded hV eM b1 (fun q hq => hvk.1 q hq) (by rw [← (hag k).2.2]; exact hday k) (by omega) hN, o_bind, mw_15 (by omega), o_bind]
    have es : ∀ i, i < k + 1 → (u_pI s 19 k (pk (turnN ρ (s1.1 2) M v k) M)).1 19 i = pk (turnN ρ (s1.1 2) M v i) M := fun i hi2 => by
      by_cases hik : i = k
      · rw [hik, p_II]
      · rw [p_Is hik]; exact (hi i (by omega)).1
    have et : ∀ i, i < k + 1 → (u_pL t 15 k (cv k)).2.1 15 i = cv i := fun i hi2 => by
      by_cases hik : i = k
      · rw [hik, p_LL]
      · rw [p_Ln (Or.inr hik)]; exact (hi i (by omega)).2
    have hs1 : TC M F σc s1 (turnN ρ (s1.1 2) M v k) (u_pI s 19 k (pk (turnN ρ (s1.1 2) M v k) M)) := ⟨cS_eq hs.1 (fun a _ _ => p_Ia (by omega)), hs.2.pI (by unfold scr; omega)⟩
    have hV1 : mV (u_pL t 15 k (cv k)) 11 (crossN ρ (s1.1 2) M F v k) := hV
    have hSM1 : SM s1 (u_pL t 15 k (cv k)) := ⟨hSM.1, hSM.2.1, fun c hc => by rw [← hSM.2.2.1 c hc]; exact funext (fun i => p_Ln (Or.inl hc)), hSM.2.2.2⟩
    show ok ((f_X11_firstLike N (u_pI s 19 k (pk (turnN ρ (s1.1 2) M v k) M)) (mI k)).bind _) (fun a => ok (u_jn ((f_X12_goCrossing N (u_pL t 15 k (cv k)) 11).bind _) (fun J95_11 => u_lp1 (b_X12_settles_50 N (mI k) (u_pL t 15 k (cv k)) J95_11) N 0)) _)
    generalize u_pI s 19 k (pk (turnN ρ (s1.1 2) M v k) M) = sB at es hs1 ⊢
    generalize u_pL t 15 k (cv k) = tB at et hV1 hSM1 ⊢
    obtain ⟨r0, hr0, e1, e2, e3⟩ := c_first (N := N) (k := k) (s := sB) (by omega) hN
    have hL : ∀ i, i ≤ k → (((k - i) % 7 = 0 ∧ sB.1 19 i = sB.1 19 k) ↔ tB.2.1 15 i = tB.2.1 15 k) := fun i hik => by
      rw [es i (by omega), es k (by omega), et i (by omega), et k (by omega)]
      exact (key i k hik (by omega)).symm
    rw [e1, o_bind, jn_eq]
    have inner : ∀ J : Option (Int32 × uS), u_lp1 (b_X12_settles_50 N (mI k) tB J) N 0 = if k ≤ r0 then J else some (mI r0, mT1 tB (Int32.toInt64 (mI k - mI r0))) := by
      intro J
      refine lp1_eq mI r0 N _ (by omega) (fun i rec3 hi3 => ?_) (fun rec3 => ?_)
      · unfold b_X12_settles_50
        have hne : ¬ lg_cmp (tB.2.1 15 i) (tB.2.1 15 k) = 0 := fun h => e2 i hi3 ((hL i (by omega)).mpr ((lg_cmp_eq _ _).mp h))
        rw [if_neg (mnle (by omega) (by omega) (by omega)), mr_15 (by omega), mr_15 (by omega), o_bind, o_bind, if_neg hne, jn_eq, mI_succ]
      · unfold b_X12_settles_50
        by_cases hkr : k ≤ r0
        · rw [if_pos (mle (by omega) (by omega) hkr), if_pos hkr]
        · have heq : lg_cmp (tB.2.1 15 r0) (tB.2.1 15 k) = 0 := (lg_cmp_eq _ _).mpr ((hL r0 (by omega)).mp (e3 (by omega)))
          rw [if_neg (mnle (by omega) (by omega) (by omega)), if_neg hkr, mr_15 (by omega), mr_15 (by omega), o_bind, o_bind, if_pos heq, jn_eq, m_tell0, o_bind]
    rw [inner]
    by_cases hkr : k ≤ r0
    · rw [if_pos (mle (by omega) (by omega) hkr), if_pos hkr, hs1.ru hr, o_bind, o_ck hr2, ok_bind]
      refine ok_mono (c_turn (by omega) (by omega) (by omega) (hcR.fr hs1.2 (by unfold scr; omega) (by unfold scr; omega)) hs1.1 b1 b3 hN) (fun z hz => ?_)
      obtain ⟨-, hz2, hz3⟩ := hz
      rw [ok_swap, ok_bind]
      have hR : mR N tB ρ := hC.2.2.2.2.2.mR.eq (hSM1.1 6 (by omega) (by unfold scrM; omega)) (hSM1.1 7 (by omega) (by unfold scrM; omega)) (hSM1.2.1 17 (nT (by omega))) (hSM1.2.2.2 0 15 (by omega))
      have e2' : tB.1 2 = s1.1 2 := hSM1.1 2 (by omega) (by unfold scrM; omega)
      refine ok_mono (m_goCrossing v11 (by rw [hSM1.2.1 2 (nT (by omega))]; exact b5) (by rw [hSM1.2.1 1 (nT (by omega))]; exact b4) b1 b3 hV1 hvk hR hN) (fun w hw => ?_)
      rw [e2'] at hw
      obtain ⟨-, hw2, hw3⟩ := hw
      rw [ok_swap]
      simp only [jn_eq, mI_succ]
      refine hrec _ _ _ _ hlt ⟨by omega, rfl, rfl, ⟨hz2, (hs1.2.trans hz3).mono (fun a ha => ?_)⟩, hw2, ⟨fun c h0 hc => ?_, fun s hs => ?_, fun c hc => ?_, fun c s hcs => ?_⟩, fun i hi2 => ⟨?_, ?_⟩⟩
      · rcases ha with ha | ha
        · exact ha
        · unfold scr; omega
      · rw [hw3.1 c h0 (by unfold scrM at hc; omega)]; exact hSM1.1 c h0 hc
      · rw [hw3.2.1 s (fun h => hs (T0_T h))]; exact hSM1.2.1 s hs
      · rw [hw3.2.2.1]; exact hSM1.2.2.1 c hc
      · rw [hw3.2.2.2 c s hcs]; exact hSM1.2.2.2 c s hcs
      · rw [hz3.1 19 (by omega)]; exact es i hi2
      · rw [hw3.2.2.1]; exact et i hi2
    · rw [if_neg (mnle (by omega) (by omega) (by omega)), if_neg hkr, c_one, o_bind, ok_some, ok_some]
      exact ⟨rfl, rel_cK1 hC (cK_scr hC hs1.2) (hSM1.mK hC) _⟩
  · rw [if_pos (llt 200 200 rfl (by omega) (by omega) (by omega)), if_pos (llt 200 200 rfl (by omega) (by omega) (by omega)), ok_some, ok_some]
    exact ⟨rfl, M, F, ρ, hC.to (cK_scr hC hs.2) (hSM.mK hC), hTo.to (by rw [hs.2.1 3 (by unfold scr; omega)]) (by rw [hs.2.2]) (hSM.2.2.1 4 (by omega)) (hSM.2.1 7 (nT (by omega)))⟩
