/-! PURE LAYER: week -/
def wkA (s t : uS) (i : Nat) : Prop := wkD s i (t.1 14 (3 * i)) (t.1 14 (3 * i + 1)) (t.1 14 (3 * i + 2))
def TA (s : uS) (n : Nat) (a b : Int32) : uS := u_pI (u_pI (u_pI (u_pI (u_pI (u_pI s 16 n (s.1 15 4)) 17 n a) 18 n b) 15 3 (mI (n + 1))) 15 4 0) 15 5 (-1)
def WS (a : Nat) : Prop := 15 ≤ a ∧ a < 19
theorem TA_eq {N n : Nat} {s : uS} {a b : Int32} (h3 : s.1 15 3 = mI n) (hn : n < 60) : f_X9_takesAct N s a b = some (1, TA s n a b) := by
  unfold f_X9_takesAct
  rw [h3, if_neg (mI_n0 (by omega)), cl_16, o_bind, if_pos (mlt (b := 60) (by omega) (by omega) hn), cw_16 hn, o_bind, p_Ia (by omega), h3, cw_17 hn, o_bind, p_Ia (by omega), p_Ia (by omega), h3, cw_18 hn, o_bind]
  simp only [jn_eq]
  rw [p_Ia (by omega), p_Ia (by omega), p_Ia (by omega), h3, mI_succ]
  rfl
theorem TA_ok {n : Nat} {σ s : uS} {a b : Int32} (hc : cX WS σ s) : (TA s n a b).1 15 3 = mI (n + 1) ∧ (TA s n a b).1 15 4 = 0 ∧ (TA s n a b).1 15 5 = -1 ∧ (TA s n a b).1 16 n = s.1 15 4 ∧ (TA s n a b).1 17 n = a ∧ (TA s n a b).1 18 n = b ∧ (∀ i, i ≠ n → (TA s n a b).1 16 i = s.1 16 i ∧ (TA s n a b).1 17 i = s.1 17 i ∧ (TA s n a b).1 18 i = s.1 18 i) ∧ cX WS σ (TA s n a b) := by
  unfold TA
  refine ⟨?_, ?_, ?_, ?_, ?_, ?_, fun i hi => ⟨?_, ?_, ?_⟩, fun c h1 h2 => ?_, ?_, ?_⟩
  · rw [p_Is (by omega), p_Is (by omega), p_II]
  · rw [p_Is (by omega), p_II]
  · rw [p_II]
  · rw [p_Ia (by omega), p_Ia (by omega), p_Ia (by omega), p_Ia (by omega), p_Ia (by omega), p_II]
  · rw [p_Ia (by omega), p_Ia (by omega), p_Ia (by omega), p_Ia (by omega), p_II]
  · rw [p_Ia (by omega), p_Ia (by omega), p_Ia (by omega), p_II]
  · rw [p_Ia (by omega), p_Ia (by omega), p_Ia (by omega), p_Ia (by omega), p_Ia (by omega), p_Is hi]
  · rw [p_Ia (by omega), p_Ia (by omega), p_Ia (by omega), p_Ia (by omega), p_Is hi, p_Ia (by omega)]
  · rw [p_Ia (by omega), p_Ia (by omega), p_Ia (by omega), p_Is hi, p_Ia (by omega), p_Ia (by omega)]
  · unfold WS at h2
    rw [p_Ia (by omega), p_Ia (by omega), p_Ia (by omega), p_Ia (by omega), p_Ia (by omega), p_Ia (by omega)]; exact hc.1 c h1 h2
  · rw [p_Ia (by omega), p_Ia (by omega), p_Ia (by omega), p_Ia (by omega), p_Ia (by omega), p_Ia (by omega)]; exact hc.2.1
  · exact hc.2.2
theorem cX_p {σ s : uS} {k : Nat} {x : Int32} (hc : cX WS σ s) : cX WS σ (u_pI s 15 k x) := ⟨fun a h1 h2 => by rw [p_Ia (fun h => h2 (by unfold WS; omega))]; exact hc.1 a h1 h2, by rw [p_Ia (by omega)]; exact hc.2.1, hc.2.2⟩
section WK
variable {N T : Nat} {x : Nat → Int32}
def wkJ (N T : Nat) : uS → Option (Int32 × uS) := fun s3 => (f_X9_takesEnd N s3).bind fun v5 => if v5 = 0 then some (mI T, s3) else some (-1, s3)
theorem wk_1 {M p : Nat} {s s' : uS} {σ : uS} (hp : p < T) (hp60 : p < 60) (hT : T ≤ 80) (hc : cX WS σ s) (hs : σ.1 2 p = x p &&& 255) (h : f_X9_takes N s (hh x T 60 p) = some (1, s')) : u_lp2 (b_X5_wrongAt_X9_13 N 60 (mI T) (wkJ N T)) (M + 1) s (mI p) = u_lp2 (b_X5_wrongAt_X9_13 N 60 (mI T) (wkJ N T)) M s' (mI (p + 1)) := by
  show b_X5_wrongAt_X9_13 N 60 (mI T) (wkJ N T) _ s (mI p) = _
  unfold b_X5_wrongAt_X9_13
  have e : s.1 2 p = hh x T 60 p := by rw [hc.1 2 (by omega) (by unfold WS; omega), hs, hh_in ⟨hp, hp60⟩]
  rw [if_neg (mnle (by omega) (by omega) hp), if_neg (lnle 60 60 rfl (by omega) (by omega) hp60), c_signAt (by omega), o_bind, e, h, o_bind, if_neg n10, jn_eq, mI_succ]
theorem wk_0 {M p : Nat} {s s' : uS} {σ : uS} (hp : p < T) (hp60 : p < 60) (hT : T ≤ 80) (hc : cX WS σ s) (hs : σ.1 2 p = x p &&& 255) (h : f_X9_takes N s (hh x T 60 p) = some (0, s')) : u_lp2 (b_X5_wrongAt_X9_13 N 60 (mI T) (wkJ N T)) (M + 1) s (mI p) = some (mI p, s') := by
  show b_X5_wrongAt_X9_13 N 60 (mI T) (wkJ N T) _ s (mI p) = _
  unfold b_X5_wrongAt_X9_13
  have e : s.1 2 p = hh x T 60 p := by rw [hc.1 2 (by omega) (by unfold WS; omega), hs, hh_in ⟨hp, hp60⟩]
  rw [if_neg (mnle (by omega) (by omega) hp), if_neg (lnle 60 60 rfl (by omega) (by omega) hp60), c_signAt (by omega), o_bind, e, h, o_bind, if_pos rfl]
theorem wk_lim {M p : Nat} {s : uS} (hp : p < T) (hp60 : 60 ≤ p) (hT : T ≤ 80) : u_lp2 (b_X5_wrongAt_X9_13 N 60 (mI T) (wkJ N T)) (M + 1) s (mI p) = some (mI p, s) := by
  show b_X5_wrongAt_X9_13 N 60 (mI T) (wkJ N T) _ s (mI p) = _
  unfold b_X5_wrongAt_X9_13
  rw [if_neg (mnle (by omega) (by omega) hp), if_pos (lle 60 60 rfl (by omega) (by omega) hp60)]
theorem wk_end {M p : Nat} {s : uS} (hp : T ≤ p) (hT : T ≤ 80) (hp2 : p < 1000) : u_lp2 (b_X5_wrongAt_X9_13 N 60 (mI T) (wkJ N T)) (M + 1) s (mI p) = if s.1 15 4 = 0 then some (-1, s) else some (mI T, s) := by
  show b_X5_wrongAt_X9_13 N 60 (mI T) (wkJ N T) _ s (mI p) = _
  unfold b_X5_wrongAt_X9_13
  rw [if_pos (mle (by omega) (by omega) hp)]
  show (f_X9_takesEnd N s).bind _ = _
  unfold f_X9_takesEnd
  by_cases h : s.1 15 4 = 0
  · rw [if_pos h, if_pos h, o_bind, if_neg n10]
  · rw [if_neg h, if_neg h, o_bind, if_pos rfl]
/-- not all signs are there, or the next can't stand there: the class -/
theorem wk_not {M p : Nat} {s : uS} {σ : uS} (hpT : p ≤ T) (hT : T ≤ 80) (hc : cX WS σ s) (hs : ∀ k, k < T → σ.1 2 k = x k &&& 255) (hk : s.1 15 4 ≠ 0) (h : p < T → p < 60 → ∃ s', f_X9_takes N s (hh x T 60 p) = some (0, s') ∧ cX WS σ s') : ∃ s', u_lp2 (b_X5_wrongAt_X9_13 N 60 (mI T) (wkJ N T)) (M + 1) s (mI p) = some (mI p, s') ∧ cX WS σ s' := by
  by_cases h1 : p < T
  · by_cases h2 : p < 60
    · obtain ⟨s', h3, h4⟩ := h h1 h2
      exact ⟨s', wk_0 h1 h2 hT hc (hs p h1) h3, h4⟩
    · exact ⟨s, wk_lim h1 (by omega) hT, hc⟩
  · have : p = T := by omega
    subst this
    exact ⟨s, by rw [wk_end (Nat.le_refl _) hT (by omega), if_neg hk], hc⟩
theorem tk_c {s : uS} {y : Int32} (h : s.1 15 4 = 99) : f_X9_takes N s y = if inR y 48 57 then ((f_X9_takesAct N s (y - 48) 0).bind fun v5 => if v5.1 = 0 then some (0, v5.2) else some (1, v5.2)) else some (0, s) := by
  unfold f_X9_takes
  rw [h, if_neg (by decide), if_pos rfl, c_isDigit, o_bind]
  simp only [jn_eq]
  cases inR y 48 57
  · simp only [Bool.false_eq_true, if_false, if_true]
  · simp only [if_true, i10, if_false]
theorem tk_s {s : uS} {y : Int32} (h : s.1 15 4 = 115) : f_X9_takes N s y = if inR y 97 104 then ((f_X9_takesAct N s (y - 97) 0).bind fun v5 => if v5.1 = 0 then some (0, v5.2) else some (1, v5.2)) else some (0, s) := by
  unfold f_X9_takes
  rw [h, if_neg (by decide), if_neg (by decide), if_pos rfl, c_isLetter, o_bind]
  simp only [jn_eq]
  cases inR y 97 104
  · simp only [Bool.false_eq_true, if_false, if_true]
  · simp only [if_true, i10, if_false]
theorem tk_g {s : uS} {y : Int32} (h : s.1 15 4 = 103) : f_X9_takes N s y = if inR y 97 104 then ((f_X9_takesGlance N s (y - 97)).bind fun v5 => if v5.1 = 0 then some (0, v5.2) else some (1, v5.2)) else some (0, s) := by
  unfold f_X9_takes
  rw [h, if_neg (by decide), if_neg (by decide), if_neg (by decide), c_isLetter, o_bind]
  simp only [jn_eq]
  cases inR y 97 104
  · simp only [Bool.false_eq_true, if_false, if_true]
  · simp only [if_true, i10, if_false]
theorem let_val {y : Int32} (h : inR y 97 104 = true) : ∃ l, l < 8 ∧ y - 97 = mI l := by
  obtain ⟨c, h1, rfl, h2, h3⟩ := (inR_iff (by omega) (by omega)).mp h
  exact ⟨c - 97, by omega, by rw [show (97 : Int32) = mI 97 from rfl, mI_sub h2 (by omega)]⟩
/-- the reference's next sign -/
def mB (σ t : uS) : Prop := mfr (fun c => c = 5 ∨ c = 14) (fun s => s = 12 ∨ s = 13) (BT σ 60) t
theorem mB_x {σ t : uS} (h : mB σ t) : t.1 3 = σ.1 3 := by rw [h.1 3 (by omega) (by omega)]; exact (BT_fr σ 60).1 3 (by omega) (fun h => h)
theorem rd14 {t : uS} {T p k : Nat} {y : Int32} (h : rdS t 3 T 60 p) : rdS (u_pI t 14 k y) 3 T 60 p := ⟨h.1, by rw [p_Ia (by omega)]; exact h.2.1, by rw [p_Ia (by omega)]; exact h.2.2.1, by rw [p_Ia (by omega)]; exact h.2.2.2.1, by rw [p_Ia (by omega)]; exact h.2.2.2.2⟩
theorem rd12 {t : uS} {T p p' : Nat} (h : rdS t 3 T 60 p) : rdS (u_pI t 0 12 (mI p')) 3 T 60 p' := ⟨h.1, by rw [p_Is (by omega)]; exact h.2.1, by rw [p_Is (by omega)]; exact h.2.2.1, p_II _ _ _ _, by rw [p_Is (by omega)]; exact h.2.2.2.2⟩
theorem m_one {σ t : uS} {T p a m : Nat} (hB : mB σ t) (hrd : rdS t 3 T 60 p) (hT : T ≤ 80) (hp : p < 1000) (hb : ∀ k, k < T → u_nar 2 (σ.1 3 k) = σ.1 3 k) (hm : 0 < m) (ham : a + m ≤ 128) : f_X12_oneOf N t (mI a) (mI m) = some (if inR (hh (σ.1 3) T 60 p) a (a + m - 1) then (hh (σ.1 3) T 60 p - mI a, u_pI t 0 12 (mI (p + 1))) else (0, u_pI t 0 13 (mI p))) := by
  have := m_oneOf1 (N := N) (a := a) (m := m) hrd (Or.inl ⟨rfl, hT⟩) (by omega) hp (by rw [mB_x hB]; exact hb) hm ham
  rw [mB_x hB] at this
  exact this
theorem wk_read {σ σm : uS} (hT : T ≤ 80) (hs : ∀ k, k < T → σ.1 2 k = σm.1 3 k &&& 255) (hb : ∀ k, k < T → u_nar 2 (σm.1 3 k) = σm.1 3 k) : ∀ (d p n Mc Mm : Nat) (s t : uS), T ≤ p + d → p ≤ T → p ≤ 60 → n ≤ p → T < Mc + p → T + 1 < Mm + p → s.1 15 3 = mI n → s.1 15 4 = 0 → s.1 15 5 = -1 → cX WS σ s → rdS t 3 T 60 p → mB σm t → (∀ i, i < n → wkA s t i) → ∃ (w : Int32) (s' t' : uS) (y : Int32), u_lp2 (b_X5_wrongAt_X9_13 N 60 (mI T) (wkJ N T)) Mc s (mI p) = some (w, s') ∧ (∀ J, u_lp2 (b_X12_week_13 N J) Mm t (mI n) = J t' y) ∧ cX WS σ s' ∧ mB σm t' ∧ ((w = -1 ∧ ∃ n', n' ≤ 60 ∧ y = mI n' ∧ s'.1 15 3 = mI n' ∧ rdS t' 3 T 60 T ∧ ∀ i, i < n' → wkA s' t' i) ∨ ∃ e, e ≤ 80 ∧ w = mI e ∧ t'.1 0 13 = mI e) := by
  intro d
  induction d with
  | zero =>
    intro p n Mc Mm s t hd hpT hp60 hnp hMc hMm h3 h4 h5 hc hrd hB hA
    have : p = T := by omega
    subst this
    obtain ⟨Mc, rfl⟩ : ∃ m, Mc = m + 1 := ⟨Mc - 1, by omega⟩
    obtain ⟨Mm, rfl⟩ : ∃ m, Mm = m + 1 := ⟨Mm - 1, by omega⟩
    refine ⟨-1, s, t, mI n, by rw [wk_end (Nat.le_refl _) hT (by omega), if_pos h4], fun J => ?_, hc, hB, Or.inl ⟨rfl, n, by omega, rfl, h3, hrd, hA⟩⟩
    show b_X12_week_13 N J _ t (mI n) = _
    unfold b_X12_week_13
    rw [m_fine1 hrd.2.2.2.2, o_bind, if_neg n10, hrd.2.1, hrd.2.2.2.1, if_pos (mle (by omega) (by omega) (Nat.le_refl _))]
  | succ d ih =>
    intro p n Mc Mm s t hd hpT hp60 hnp hMc hMm h3 h4 h5 hc hrd hB hA
    by_cases hpe : p = T
    · exact (fun (hh : T ≤ p + d) => ih p n Mc Mm s t hh hpT hp60 hnp hMc hMm h3 h4 h5 hc hrd hB hA) (by omega)
    have hpl : p < T := by omega
    obtain ⟨Mc, rfl⟩ : ∃ m, Mc = m + 1 := ⟨Mc - 1, by omega⟩
    obtain ⟨Mm, rfl⟩ : ∃ m, Mm = m + 1 := ⟨Mm - 1, by omega⟩
    have hq : qOK 3 T := Or.inl ⟨rfl, hT⟩
    have hthere : f_X12_here N t = some (hh (σm.1 3) T 60 p) := by rw [m_here hrd hq (by omega) (by omega), mB_x hB]
    have e3n : (3 : Int32) * mI n = mI (3 * n) := by rw [show (3 : Int32) = mI 3 from rfl, mI_mul]
    -- an act was read by both
    have good : ∀ (k : Nat) (s' t' : uS), 1 ≤ k → p + k ≤ T → p + k ≤ 60 → u_lp2 (b_X5_wrongAt_X9_13 N 60 (mI T) (wkJ N T)) (Mc + 1) s (mI p) = u_lp2 (b_X5_wrongAt_X9_13 N 60 (mI T) (wkJ N T)) (Mc + 1 - k) s' (mI (p + k)) → f_X12_readAct N t (mI (3 * n)) = some t' → s'.1 15 3 = mI (n + 1) → s'.1 15 4 = 0 → s'.1 15 5 = -1 → cX WS σ s' → rdS t' 3 T 60 (p + k) → mB σm t' → (∀ i, i < n + 1 → wkA s' t' i) → ∃ (w : Int32) (s' t' : uS) (y : Int32), u_lp2 (b_X5_wrongAt_X9_13 N 60 (mI T) (wkJ N T)) (Mc + 1) s (mI p) = some (w, s') ∧ (∀ J, u_lp2 (b_X12_week_13 N J) (Mm + 1) t (mI n) = J t' y) ∧ cX WS σ s' ∧ mB σm t' ∧ ((w = -1 ∧ ∃ n', n' ≤ 60 ∧ y = mI n' ∧ s'.1 15 3 = mI n' ∧ rdS t' 3 T 60 T ∧ ∀ i, i < n' → wkA s' t' i) ∨ ∃ e, e ≤ 80 ∧ w = mI e ∧ t'.1 0 13 = mI e) := by
      intro k s' t' hk1 hk2 hk3 hcl hre g3 g4 g5 gc grd gB gA
      obtain ⟨w, s2, t2, y, r1, r2, r3⟩ := ih (p + k) (n + 1) (Mc + 1 - k) Mm s' t' (by omega) hk2 hk3 (by omega) (by omega) (by omega) g3 g4 g5 gc grd gB gA
      refine ⟨w, s2, t2, y, by rw [hcl]; exact r1, fun J => ?_, r3⟩
      rw [← r2 J]
      show b_X12_week_13 N J _ t (mI n) = _
      unfold b_X12_week_13
      rw [m_fine1 hrd.2.2.2.2, o_bind, if_neg n10, hrd.2.1, hrd.2.2.2.1, if_neg (mnle (by omega) (by omega) hpl), e3n, hre, o_bind, jn_eq, mI_succ]
    have bad : ∀ (e : Nat) (s' t' : uS), e ≤ 80 → u_lp2 (b_X5_wrongAt_X9_13 N 60 (mI T) (wkJ N T)) (Mc + 1) s (mI p) = some (mI e, s') → f_X12_readAct N t (mI (3 * n)) = some t' → cX WS σ s' → mB σm t' → t'.1 0 13 = mI e → ∃ (w : Int32) (s' t' : uS) (y : Int32), u_lp2 (b_X5_wrongAt_X9_13 N 60 (mI T) (wkJ N T)) (Mc + 1) s (mI p) = some (w, s') ∧ (∀ J, u_lp2 (b_X12_week_13 N J) (Mm + 1) t (mI n) = J t' y) ∧ cX WS σ s' ∧ mB σm t' ∧ ((w = -1 ∧ ∃ n', n' ≤ 60 ∧ y = mI n' ∧ s'.1 15 3 = mI n' ∧ rdS t' 3 T 60 T ∧ ∀ i, i < n' → wkA s' t' i) ∨ ∃ e, e ≤ 80 ∧ w = mI e ∧ t'.1 0 13 = mI e) := by
      intro e s' t' he hcl hre gc gB h13
      refine ⟨mI e, s', t', mI (n + 1), hcl, fun J => ?_, gc, gB, Or.inr ⟨e, he, rfl, h13⟩⟩
      have h13n : t'.1 0 13 ≠ -1 := by rw [h13]; intro h; exact absurd (m1_le e (by omega)).2 (by rw [h]; decide)
      obtain ⟨Mm, rfl⟩ : ∃ m, Mm = m + 1 := ⟨Mm - 1, by omega⟩
      show b_X12_week_13 N J (u_lp2 (b_X12_week_13 N J) (Mm + 1)) t (mI n) = _
      unfold b_X12_week_13
      rw [m_fine1 hrd.2.2.2.2, o_bind, if_neg n10, hrd.2.1, hrd.2.2.2.1, if_neg (mnle (by omega) (by omega) hpl), e3n, hre, o_bind, jn_eq, mI_succ]
      show b_X12_week_13 N J (u_lp2 (b_X12_week_13 N J) Mm) t' (mI (n + 1)) = _
      unfold b_X12_week_13
      rw [m_fine0 h13n, o_bind, if_pos rfl]
    by_cases hp6 : p < 60
    · -- what both do with an act's first sign
      have hHs := hh_in (x := σm.1 3) (n := T) (top := 60) (p := p) ⟨hpl, hp6⟩
      have hn60 : n < 60 := by omega
      have tk0 : ∀ y, f_X9_takes N s y = (f_X9_takesKind N s y).bind fun v1 => u_ck (v1.1 = 0 ∨ v1.1 = 1) (some (v1.1, v1.2)) := fun y => by unfold f_X9_takes; rw [if_pos h4]
      have s3' : ∀ y, (u_pI s 15 4 y).1 15 3 = mI n := fun y => by rw [p_Is (by omega)]; exact h3
      have wkOld : ∀ (s' t' : uS), (∀ i, i ≠ n → s'.1 16 i = s.1 16 i ∧ s'.1 17 i = s.1 17 i ∧ s'.1 18 i = s.1 18 i) → (∀ k, k < 3 * n → t'.1 14 k = t.1 14 k) → wkA s' t' n → ∀ i, i < n + 1 → wkA s' t' i := fun s' t' g1 g2 g3 i hi => by
        by_cases hin : i = n
        · rw [hin]; exact g3
        · have := hA i (by omega)
          unfold wkA wkD at this ⊢
          rw [(g1 i hin).1, (g1 i hin).2.1, (g1 i hin).2.2, g2 (3 * i) (by omega), g2 (3 * i + 1) (by omega), g2 (3 * i + 2) (by omega)]
          exact this
      have hBt1 : mB σm (u_pI t 0 12 (mI (p + 1))) := hB.p0 (Or.inl rfl)
      have hrd1 := rd12 (p' := p + 1) hrd
      by_cases hpm : hh (σm.1 3) T 60 p = 43 ∨ hh (σm.1 3) T 60 p = 45
      · -- the rope
        have htk : f_X9_takes N s (hh (σm.1 3) T 60 p) = some (1, TA (u_pI s 15 4 (hh (σm.1 3) T 60 p)) n 0 0) := by
          rw [tk0]
          unfold f_X9_takesKind
          simp only [jn_eq]
          rw [TA_eq (s3' _) hn60, o_bind, o_ck (Or.inr rfl)]
          rcases hpm with h | h
          · rw [if_pos h, o_bind, o_ck (Or.inr rfl)]
          · rw [if_neg (by rw [h]; decide), if_pos h, o_bind, o_ck (Or.inr rfl)]
        have hre : f_X12_readAct N t (mI (3 * n)) = some (u_pI (u_pI t 0 12 (mI (p + 1))) 14 (3 * n) (hh (σm.1 3) T 60 p)) := by
          unfold f_X12_readAct
          rw [hthere, o_bind]
          simp only [jn_eq]
          rw [hrd.2.2.2.1, mI_succ, mw_14 (by omega)]
          rcases hpm with h | h
          · simp (decide := true) only [h, if_true, if_false, o_bind]
          · simp (decide := true) only [h, if_true, if_false, o_bind]
        obtain ⟨w3, w4, w5, w6, w7, w8, w9, w10⟩ := TA_ok (n := n) (a := 0) (b := 0) (cX_p (k := 4) (x := hh (σm.1 3) T 60 p) hc)
        refine good 1 _ _ (by omega) (by omega) (by omega) (wk_1 hpl hp6 hT hc (hs p hpl) htk) hre w3 w4 w5 w10 (rd14 hrd1) (hBt1.pI (by omega) (Or.inr rfl)) (wkOld _ _ (fun i hi => ?_) (fun k hk => ?_) ⟨?_, Or.inl ?_⟩)
        · obtain ⟨q1, q2, q3⟩ := w9 i hi
          rw [q1, q2, q3, p_Ia (by omega), p_Ia (by omega), p_Ia (by omega)]
          exact ⟨rfl, rfl, rfl⟩
        · rw [p_Is (by omega), p_Ia (by omega)]
        · rw [w6, p_II, p_II]
        · rw [p_II]; exact hpm
      by_cases hc99 : hh (σm.1 3) T 60 p = 99
      · -- crossings
        have hcX1 := cX_p (k := 4) (x := 99) hc
        have k1 : (u_pI s 15 4 99).1 15 4 = 99 := p_II _ _ _ _
        have htk : f_X9_takes N s (hh (σm.1 3) T 60 p) = some (1, u_pI s 15 4 99) := by
          rw [tk0, hc99]
          unfold f_X9_takesKind
          simp (decide := true) only [jn_eq, if_true, if_false, o_bind]
          exact o_ckT
        have st1 := wk_1 (M := Mc) hpl hp6 hT hc (hs p hpl) htk
        have hone := m_one (N := N) (a := 48) (m := 10) (hBt1.pI (k := 3 * n) (v := 99) (by omega) (Or.inr rfl)) (rd14 hrd1) hT (by omega) hb (by omega) (by omega)
        have hone : f_X12_oneOf N (u_pI (u_pI t 0 12 (mI (p + 1))) 14 (3 * n) 99) 48 10 = _ := hone
        have hre : f_X12_readAct N t (mI (3 * n)) = (f_X12_oneOf N (u_pI (u_pI t 0 12 (mI (p + 1))) 14 (3 * n) 99) 48 10).bind fun v14 => (u_wI ZM v14.2 0 14 (mI (3 * n + 1)) v14.1).bind fun s15 => some s15 := by
          unfold f_X12_readAct
          rw [hthere, o_bind, hc99]
          simp only [jn_eq]
          rw [hrd.2.2.2.1, mI_succ, mI_succ, mw_14 (by omega)]
          simp (decide := true) only [if_true, if_false, o_bind]
        rw [hone] at hre
        obtain ⟨Mc, rfl⟩ : ∃ m, Mc = m + 1 := ⟨Mc - 1, by omega⟩
        cases hin : inR (hh (σm.1 3) T 60 (p + 1)) 48 (48 + 10 - 1)
        · rw [hin, if_neg Bool.false_ne_true, o_bind, mw_14 (by omega), o_bind] at hre
          obtain ⟨s', e1, e2⟩ := wk_not (N := N) (M := Mc) (p := p + 1) (x := σm.1 3) (by omega) hT hcX1 hs (by rw [k1]; decide) (fun _ _ => ⟨_, by rw [tk_c k1, hin, if_neg Bool.false_ne_true], hcX1⟩)
          exact bad (p + 1) s' _ (by omega) (by rw [st1]; exact e1) hre e2 (((hBt1.pI (by omega) (Or.inr rfl)).p0 (Or.inr rfl)).pI (by omega) (Or.inr rfl)) (by rw [p_Ia (by omega), p_II])
        · have hlt := inR_lt (by omega) (by omega) hin
          rw [hin, if_pos rfl, o_bind, mw_14 (by omega), o_bind] at hre
          obtain ⟨v, hv, ev⟩ := dig_val hin
          have htk2 : f_X9_takes N (u_pI s 15 4 99) (hh (σm.1 3) T 60 (p + 1)) = some (1, TA (u_pI s 15 4 99) n (hh (σm.1 3) T 60 (p + 1) - 48) 0) := by
            rw [tk_c k1, hin, if_pos rfl, TA_eq (s3' _) hn60, o_bind, if_neg n10]
          obtain ⟨w3, w4, w5, w6, w7, w8, w9, w10⟩ := TA_ok (n := n) (a := hh (σm.1 3) T 60 (p + 1) - 48) (b := 0) hcX1
          refine good 2 _ _ (by omega) (by omega) (by omega) (by rw [st1, wk_1 hlt.1 hlt.2 hT hcX1 (hs (p + 1) hlt.1) htk2]; rfl) hre w3 w4 w5 w10 (rd14 (rd12 (rd14 hrd1))) (((hBt1.pI (by omega) (Or.inr rfl)).p0 (Or.inl rfl)).pI (by omega) (Or.inr rfl)) (wkOld _ _ (fun i hi => ?_) (fun k hk => ?_) ⟨?_, Or.inr (Or.inl ⟨?_, v, hv, ?_, ?_⟩)⟩)
          · obtain ⟨q1, q2, q3⟩ := w9 i hi
            rw [q1, q2, q3, p_Ia (by omega), p_Ia (by omega), p_Ia (by omega)]
            exact ⟨rfl, rfl, rfl⟩
          · rw [p_Is (by omega), p_Ia (by omega), p_Is (by omega), p_Ia (by omega)]
          · rw [w6, k1, p_Is (by omega), p_Ia (by omega), p_II]
          · rw [p_Is (by omega), p_Ia (by omega), p_II]
          · rw [w7]; exact ev
          · rw [p_II]; exact ev
      by_cases hs115 : hh (σm.1 3) T 60 p = 115
      · -- a sign
        have hcX1 := cX_p (k := 4) (x := 115) hc
        have k1 : (u_pI s 15 4 115).1 15 4 = 115 := p_II _ _ _ _
        have htk : f_X9_takes N s (hh (σm.1 3) T 60 p) = some (1, u_pI s 15 4 115) := by
          rw [tk0, hs115]
          unfold f_X9_takesKind
          simp (decide := true) only [jn_eq, if_true, if_false, o_bind]
          exact o_ckT
        have st1 := wk_1 (M := Mc) hpl hp6 hT hc (hs p hpl) htk
        have hone := m_one (N := N) (a := 97) (m := 8) (hBt1.pI (k := 3 * n) (v := 115) (by omega) (Or.inr rfl)) (rd14 hrd1) hT (by omega) hb (by omega) (by omega)
        have hone : f_X12_oneOf N (u_pI (u_pI t 0 12 (mI (p + 1))) 14 (3 * n) 115) 97 8 = _ := hone
        have hre : f_X12_readAct N t (mI (3 * n)) = (f_X12_oneOf N (u_pI (u_pI t 0 12 (mI (p + 1))) 14 (3 * n) 115) 97 8).bind fun v14 => (u_wI ZM v14.2 0 14 (mI (3 * n + 1)) v14.1).bind fun s15 => some s15 := by
          unfold f_X12_readAct
          rw [hthere, o_bind, hs115]
          simp only [jn_eq]
          rw [hrd.2.2.2.1, mI_succ, mI_succ, mw_14 (by omega)]
          simp (decide := true) only [if_true, if_false, o_bind]
        rw [hone] at hre
        obtain ⟨Mc, rfl⟩ : ∃ m, Mc = m + 1 := ⟨Mc - 1, by omega⟩
        cases hin : inR (hh (σm.1 3) T 60 (p + 1)) 97 (97 + 8 - 1)
        · rw [hin, if_neg Bool.false_ne_true, o_bind, mw_14 (by omega), o_bind] at hre
          obtain ⟨s', e1, e2⟩ := wk_not (N := N) (M := Mc) (p := p + 1) (x := σm.1 3) (by omega) hT hcX1 hs (by rw [k1]; decide) (fun _ _ => ⟨_, by rw [tk_s k1, hin, if_neg Bool.false_ne_true], hcX1⟩)
          exact bad (p + 1) s' _ (by omega) (by rw [st1]; exact e1) hre e2 (((hBt1.pI (by omega) (Or.inr rfl)).p0 (Or.inr rfl)).pI (by omega) (Or.inr rfl)) (by rw [p_Ia (by omega), p_II])
        · have hlt := inR_lt (by omega) (by omega) hin
          rw [hin, if_pos rfl, o_bind, mw_14 (by omega), o_bind] at hre
          obtain ⟨v, hv, ev⟩ := let_val hin
          have htk2 : f_X9_takes N (u_pI s 15 4 115) (hh (σm.1 3) T 60 (p + 1)) = some (1, TA (u_pI s 15 4 115) n (hh (σm.1 3) T 60 (p + 1) - 97) 0) := by
            rw [tk_s k1, hin, if_pos rfl, TA_eq (s3' _) hn60, o_bind, if_neg n10]
          obtain ⟨w3, w4, w5, w6, w7, w8, w9, w10⟩ := TA_ok (n := n) (a := hh (σm.1 3) T 60 (p + 1) - 97) (b := 0) hcX1
          refine good 2 _ _ (by omega) (by omega) (by omega) (by rw [st1, wk_1 hlt.1 hlt.2 hT hcX1 (hs (p + 1) hlt.1) htk2]; rfl) hre w3 w4 w5 w10 (rd14 (rd12 (rd14 hrd1))) (((hBt1.pI (by omega) (Or.inr rfl)).p0 (Or.inl rfl)).pI (by omega) (Or.inr rfl)) (wkOld _ _ (fun i hi => ?_) (fun k hk => ?_) ⟨?_, Or.inr (Or.inr (Or.inl ⟨?_, v, hv, ?_, ?_⟩))⟩)
          · obtain ⟨q1, q2, q3⟩ := w9 i hi
            rw [q1, q2, q3, p_Ia (by omega), p_Ia (by omega), p_Ia (by omega)]
            exact ⟨rfl, rfl, rfl⟩
          · rw [p_Is (by omega), p_Ia (by omega), p_Is (by omega), p_Ia (by omega)]
          · rw [w6, k1, p_Is (by omega), p_Ia (by omega), p_II]
          · rw [p_Is (by omega), p_Ia (by omega), p_II]
          · rw [w7]; exact ev
          · rw [p_II]; exact ev
      by_cases hg103 : hh (σm.1 3) T 60 p = 103
      · -- a glance
        have hcX1 := cX_p (k := 4) (x := 103) hc
        have k1 : (u_pI s 15 4 103).1 15 4 = 103 := p_II _ _ _ _
        have k5 : (u_pI s 15 4 103).1 15 5 = -1 := by rw [p_Is (by omega)]; exact h5
        have htk : f_X9_takes N s (hh (σm.1 3) T 60 p) = some (1, u_pI s 15 4 103) := by
          rw [tk0, hg103]
          unfold f_X9_takesKind
          simp (decide := true) only [jn_eq, if_true, if_false, o_bind]
          exact o_ckT
        have st1 := wk_1 (M := Mc) hpl hp6 hT hc (hs p hpl) htk
        have hBt2 : mB σm (u_pI (u_pI t 0 12 (mI (p + 1))) 14 (3 * n) 103) := hBt1.pI (by omega) (Or.inr rfl)
        have hone := m_one (N := N) (a := 97) (m := 8) hBt2 (rd14 hrd1) hT (by omega) hb (by omega) (by omega)
        have hone : f_X12_oneOf N (u_pI (u_pI t 0 12 (mI (p + 1))) 14 (3 * n) 103) 97 8 = _ := hone
        have hre : f_X12_readAct N t (mI (3 * n)) = (f_X12_oneOf N (u_pI (u_pI t 0 12 (mI (p + 1))) 14 (3 * n) 103) 97 8).bind fun v12 => (u_wI ZM v12.2 0 14 (mI (3 * n + 1)) v12.1).bind fun s13 => (f_X12_oneOf N s13 97 8).bind fun v9 => (u_wI ZM v9.2 0 14 (mI (3 * n + 2)) v9.1).bind fun s10 => some s10 := by
          unfold f_X12_readAct
          rw [hthere, o_bind, hg103]
          simp only [jn_eq]
          rw [hrd.2.2.2.1, mI_succ, mI_succ, show (2 : Int32) = mI 2 from rfl, mI_add, mw_14 (by omega)]
          simp (decide := true) only [if_true, if_false, o_bind]
        rw [hone] at hre
        obtain ⟨Mc, rfl⟩ : ∃ m, Mc = m + 1 := ⟨Mc - 1, by omega⟩
        cases hin : inR (hh (σm.1 3) T 60 (p + 1)) 97 (97 + 8 - 1)
        · rw [hin, if_neg Bool.false_ne_true, o_bind, mw_14 (by omega), o_bind, m_oneOf0 (by rw [p_Ia (by omega), p_II]; intro h; exact absurd (m1_le (p + 1) (by omega)).2 (by rw [h]; decide)), o_bind, mw_14 (by omega), o_bind] at hre
          obtain ⟨s', e1, e2⟩ := wk_not (N := N) (M := Mc) (p := p + 1) (x := σm.1 3) (by omega) hT hcX1 hs (by rw [k1]; decide) (fun _ _ => ⟨_, by rw [tk_g k1, hin, if_neg Bool.false_ne_true], hcX1⟩)
          exact bad (p + 1) s' _ (by omega) (by rw [st1]; exact e1) hre e2 (((hBt2.p0 (Or.inr rfl)).pI (by omega) (Or.inr rfl)).pI (by omega) (Or.inr rfl)) (by rw [p_Ia (by omega), p_Ia (by omega), p_II])
        · have hlt := inR_lt (by omega) (by omega) hin
          obtain ⟨v, hv, ev⟩ := let_val hin
          have hcX2 := cX_p (k := 5) (x := hh (σm.1 3) T 60 (p + 1) - 97) hcX1
          have htk2 : f_X9_takes N (u_pI s 15 4 103) (hh (σm.1 3) T 60 (p + 1)) = some (1, u_pI (u_pI s 15 4 103) 15 5 (hh (σm.1 3) T 60 (p + 1) - 97)) := by
            rw [tk_g k1, hin, if_pos rfl]
            unfold f_X9_takesGlance
            rw [k5, if_pos (by decide), jn_eq, o_bind, if_neg n10]
          have st2 := wk_1 (M := Mc) hlt.1 hlt.2 hT hcX1 (hs (p + 1) hlt.1) htk2
          have hrd2 := rd14 (k := 3 * n + 1) (y := hh (σm.1 3) T 60 (p + 1) - mI 97) (rd12 (p' := p + 1 + 1) (rd14 (k := 3 * n) (y := 103) hrd1))
          have hBt3 : mB σm (u_pI (u_pI (u_pI (u_pI t 0 12 (mI (p + 1))) 14 (3 * n) 103) 0 12 (mI (p + 1 + 1))) 14 (3 * n + 1) (hh (σm.1 3) T 60 (p + 1) - mI 97)) := (hBt2.p0 (Or.inl rfl)).pI (by omega) (Or.inr rfl)
          have hone2 := m_one (N := N) (a := 97) (m := 8) hBt3 hrd2 hT (by omega) hb (by omega) (by omega)
          rw [hin, if_pos rfl, o_bind, mw_14 (by omega), o_bind] at hre
          have hone2 : f_X12_oneOf N (u_pI (u_pI (u_pI (u_pI t 0 12 (mI (p + 1))) 14 (3 * n) 103) 0 12 (mI (p + 1 + 1))) 14 (3 * n + 1) (hh (σm.1 3) T 60 (p + 1) - mI 97)) 97 8 = _ := hone2
          rw [hone2] at hre
          obtain ⟨Mc, rfl⟩ : ∃ m, Mc = m + 1 := ⟨Mc - 1, by omega⟩
          have k1' : (u_pI (u_pI s 15 4 103) 15 5 (hh (σm.1 3) T 60 (p + 1) - 97)).1 15 4 = 103 := by rw [p_Is (by omega)]; exact k1
          have k5' : (u_pI (u_pI s 15 4 103) 15 5 (hh (σm.1 3) T 60 (p + 1) - 97)).1 15 5 = mI v := by rw [p_II]; exact ev
          have k3' : (u_pI (u_pI s 15 4 103) 15 5 (hh (σm.1 3) T 60 (p + 1) - 97)).1 15 3 = mI n := by rw [p_Is (by omega)]; exact s3' _
          cases hin2 : inR (hh (σm.1 3) T 60 (p + 1 + 1)) 97 (97 + 8 - 1)
          · rw [hin2, if_neg Bool.false_ne_true, o_bind, mw_14 (by omega), o_bind] at hre
            obtain ⟨s', e1, e2⟩ := wk_not (N := N) (M := Mc) (p := p + 1 + 1) (x := σm.1 3) (by omega) hT hcX2 hs (by rw [k1']; decide) (fun _ _ => ⟨_, by rw [tk_g k1', hin2, if_neg Bool.false_ne_true], hcX2⟩)
            exact bad (p + 1 + 1) s' _ (by omega) (by rw [st1, st2]; exact e1) hre e2 ((hBt3.p0 (Or.inr rfl)).pI (by omega) (Or.inr rfl)) (by rw [p_Ia (by omega), p_II])
          · have hlt2 := inR_lt (by omega) (by omega) hin2
            rw [hin2, if_pos rfl, o_bind, mw_14 (by omega), o_bind] at hre
            obtain ⟨v2, hv2, ev2⟩ := let_val hin2
            have htk3 : f_X9_takes N (u_pI (u_pI s 15 4 103) 15 5 (hh (σm.1 3) T 60 (p + 1) - 97)) (hh (σm.1 3) T 60 (p + 1 + 1)) = some (1, TA (u_pI (u_pI s 15 4 103) 15 5 (hh (σm.1 3) T 60 (p + 1) - 97)) n (mI v) (hh (σm.1 3) T 60 (p + 1 + 1) - 97)) := by
              rw [tk_g k1', hin2, if_pos rfl]
              unfold f_X9_takesGlance
              rw [k5', if_neg (mI_n0 (by omega)), TA_eq k3' hn60, o_bind, o_ck (Or.inr rfl), o_bind, if_neg n10]
            obtain ⟨w3, w4, w5, w6, w7, w8, w9, w10⟩ := TA_ok (n := n) (a := mI v) (b := hh (σm.1 3) T 60 (p + 1 + 1) - 97) hcX2
            refine good 3 _ _ (by omega) (by omega) (by omega) (by rw [st1, st2, wk_1 hlt2.1 hlt2.2 hT hcX2 (hs (p + 1 + 1) hlt2.1) htk3]; rfl) hre w3 w4 w5 w10 (rd14 (rd12 hrd2)) ((hBt3.p0 (Or.inl rfl)).pI (by omega) (Or.inr rfl)) (wkOld _ _ (fun i hi => ?_) (fun k hk => ?_) ⟨?_, Or.inr (Or.inr (Or.inr ⟨?_, v, v2, hv, hv2, w7, ?_, ?_, ?_⟩))⟩)
            · obtain ⟨q1, q2, q3⟩ := w9 i hi
              rw [q1, q2, q3, p_Ia (by omega), p_Ia (by omega), p_Ia (by omega), p_Ia (by omega), p_Ia (by omega), p_Ia (by omega)]
              exact ⟨rfl, rfl, rfl⟩
            · rw [p_Is (by omega), p_Ia (by omega), p_Is (by omega), p_Ia (by omega), p_Is (by omega), p_Ia (by omega)]
            · rw [w6, k1', p_Is (by omega), p_Ia (by omega), p_Is (by omega), p_Ia (by omega), p_II]
            · rw [p_Is (by omega), p_Ia (by omega), p_Is (by omega), p_Ia (by omega), p_II]
            · rw [p_Is (by omega), p_Ia (by omega), p_II]; exact ev
            · rw [w8]; exact ev2
            · rw [p_II]; exact ev2
      · -- no act begins so
        have n43 : ¬ hh (σm.1 3) T 60 p = 43 := fun h => hpm (Or.inl h)
        have n45 : ¬ hh (σm.1 3) T 60 p = 45 := fun h => hpm (Or.inr h)
        have htk : f_X9_takes N s (hh (σm.1 3) T 60 p) = some (0, u_pI s 15 4 (hh (σm.1 3) T 60 p)) := by
          rw [tk0]
          unfold f_X9_takesKind
          simp only [jn_eq]
          rw [if_neg n43, if_neg n45, if_neg hc99, if_neg hs115, if_neg hg103, o_bind, o_ck (Or.inl rfl)]
        have hre : f_X12_readAct N t (mI (3 * n)) = some (u_pI t 0 13 (mI p)) := by
          unfold f_X12_readAct
          rw [hthere, o_bind]
          simp only [jn_eq]
          rw [if_neg hc99, if_neg hs115, if_neg hg103, if_neg n43, if_neg n45, m_fault1 hrd.2.2.2.2, o_bind, hrd.2.2.2.1]
        exact bad p _ _ (by omega) (wk_0 hpl hp6 hT hc (hs p hpl) htk) hre (cX_p hc) (hB.p0 (Or.inr rfl)) (p_II _ _ _ _)
    · -- too long
      have hH : hh (σm.1 3) T 60 p = -1 := hh_out (by omega)
      have hre : f_X12_readAct N t (mI (3 * n)) = some (u_pI t 0 13 (mI p)) := by
        unfold f_X12_readAct
        rw [hthere, o_bind, hH]
        simp only [jn_eq]
        rw [if_neg (by decide), if_neg (by decide), if_neg (by decide), if_neg (by decide), if_neg (by decide), m_fault1 hrd.2.2.2.2, o_bind, hrd.2.2.2.1]
      exact bad p _ _ (by omega) (wk_lim hpl (by omega) hT) hre hc (hB.p0 (Or.inr rfl)) (p_II _ _ _ _)
end WK
