/-! PURE LAYER: reading people -/
def PS (a : Nat) : Prop := 11 ≤ a ∧ a < 15
def pR (s t : uS) (i : Nat) : Prop := s.1 12 i = t.1 5 (3 * i) ∧ s.1 13 i = t.1 5 (3 * i + 1) ∧ s.1 14 i = t.1 5 (3 * i + 2) ∧ dg (s.1 12 i)
def mB7 (σ t : uS) : Prop := mfr (fun c => c = 5 ∨ c = 14) (fun s => s = 12 ∨ s = 13) (BT σ 76) t
theorem mB7_x {σ t : uS} (h : mB7 σ t) : t.1 3 = σ.1 3 := by rw [h.1 3 (by omega) (by omega)]; exact (BT_fr σ 76).1 3 (by omega) (fun h => h)
theorem rd5 {t : uS} {T p k : Nat} {y : Int32} (h : rdS t 3 T 76 p) : rdS (u_pI t 5 k y) 3 T 76 p := ⟨h.1, by rw [p_Ia (by omega)]; exact h.2.1, by rw [p_Ia (by omega)]; exact h.2.2.1, by rw [p_Ia (by omega)]; exact h.2.2.2.1, by rw [p_Ia (by omega)]; exact h.2.2.2.2⟩
theorem rd12' {t : uS} {T p p' : Nat} (h : rdS t 3 T 76 p) : rdS (u_pI t 0 12 (mI p')) 3 T 76 p' := ⟨h.1, by rw [p_Is (by omega)]; exact h.2.1, by rw [p_Is (by omega)]; exact h.2.2.1, p_II _ _ _ _, by rw [p_Is (by omega)]; exact h.2.2.2.2⟩
theorem m_one7 {N : Nat} {σ t : uS} {T p a m : Nat} (hB : mB7 σ t) (hrd : rdS t 3 T 76 p) (hT : T ≤ 80) (hp : p < 1000) (hb : ∀ k, k < T → u_nar 2 (σ.1 3 k) = σ.1 3 k) (hm : 0 < m) (ham : a + m ≤ 128) : f_X12_oneOf N t (mI a) (mI m) = some (if inR (hh (σ.1 3) T 76 p) a (a + m - 1) then (hh (σ.1 3) T 76 p - mI a, u_pI t 0 12 (mI (p + 1))) else (0, u_pI t 0 13 (mI p))) := by
  have := m_oneOf1 (N := N) (a := a) (m := m) hrd (Or.inl ⟨rfl, hT⟩) (by omega) hp (by rw [mB7_x hB]; exact hb) hm ham
  rw [mB7_x hB] at this
  exact this
theorem cXp {σ s : uS} {a k : Nat} {x : Int32} (hc : cX PS σ s) (ha : PS a) : cX PS σ (u_pI s a k x) := ⟨fun b h1 h2 => by rw [p_Ia (fun h => h2 (by rw [h]; exact ha))]; exact hc.1 b h1 h2, by rw [p_Ia (by unfold PS at ha; omega)]; exact hc.2.1, hc.2.2⟩
theorem m1ne {k : Nat} (hk : k < 1000000) : mI k ≠ -1 := fun h => absurd (m1_le k hk).2 (by rw [h]; decide)
theorem shr_z : ∀ n : Fin 256, ∀ o : Fin 8, ((mI n.val >>> (mI o.val &&& 31)) = 0) ↔ ∀ i : Fin 8, o.val ≤ i.val → tb (mI n.val) i.val = false := by decide +kernel
theorem shr_lo {x : Int32} {o : Nat} (hx : lo8 x) (ho : o < 8) : ((x >>> (mI o &&& 31)) = 0) ↔ ∀ i, o ≤ i → tb x i = false := by
  obtain ⟨n, hn, rfl⟩ := lo8_nat hx
  rw [shr_z ⟨n, hn⟩ ⟨o, ho⟩]
  constructor
  · intro h i hi
    by_cases h8 : i < 8
    · exact h ⟨i, h8⟩ hi
    · exact hx i (by omega)
  · intro h i hi
    exact h i.val hi
section PP
variable {N T : Nat} {x : Nat → Int32}
def ppJ (N T : Nat) : uS → Option (Int32 × uS) := fun s3 => (f_X4_takesEnd N s3).bind fun v5 => if v5 = 0 then some (mI T, s3) else some (-1, s3)
abbrev ppB (N T : Nat) := b_X5_wrongAt_X4_13 N 76 (mI T) (ppJ N T)
theorem pp_1 {M p : Nat} {s s' σ : uS} (hp : p < T) (hp6 : p < 76) (hT : T ≤ 80) (hc : cX PS σ s) (hs : σ.1 2 p = x p &&& 255) (h : f_X4_takes N s (hh x T 76 p) = some (1, s')) : u_lp2 (ppB N T) (M + 1) s (mI p) = u_lp2 (ppB N T) M s' (mI (p + 1)) := by
  show b_X5_wrongAt_X4_13 N 76 (mI T) (ppJ N T) _ s (mI p) = _
  have e : s.1 2 p = hh x T 76 p := by rw [hc.1 2 (by omega) (by unfold PS; omega), hs, hh_in ⟨hp, hp6⟩]
  generalize u_lp2 (ppB N T) M = R
  unfold b_X5_wrongAt_X4_13
  rw [if_neg (mnle (by omega) (by omega) hp), if_neg (lnle 76 76 rfl (by omega) (by omega) hp6), c_signAt (by omega), o_bind, e, h, o_bind, if_neg n10, jn_eq, mI_succ]
theorem pp_0 {M p : Nat} {s s' σ : uS} (hp : p < T) (hp6 : p < 76) (hT : T ≤ 80) (hc : cX PS σ s) (hs : σ.1 2 p = x p &&& 255) (h : f_X4_takes N s (hh x T 76 p) = some (0, s')) : u_lp2 (ppB N T) (M + 1) s (mI p) = some (mI p, s') := by
  show b_X5_wrongAt_X4_13 N 76 (mI T) (ppJ N T) _ s (mI p) = _
  have e : s.1 2 p = hh x T 76 p := by rw [hc.1 2 (by omega) (by unfold PS; omega), hs, hh_in ⟨hp, hp6⟩]
  unfold b_X5_wrongAt_X4_13
  rw [if_neg (mnle (by omega) (by omega) hp), if_neg (lnle 76 76 rfl (by omega) (by omega) hp6), c_signAt (by omega), o_bind, e, h, o_bind, if_pos rfl]
theorem pp_lim {M p : Nat} {s : uS} (hp : p < T) (hp6 : 76 ≤ p) (hT : T ≤ 80) : u_lp2 (ppB N T) (M + 1) s (mI p) = some (mI p, s) := by
  show b_X5_wrongAt_X4_13 N 76 (mI T) (ppJ N T) _ s (mI p) = _
  unfold b_X5_wrongAt_X4_13
  rw [if_neg (mnle (by omega) (by omega) hp), if_pos (lle 76 76 rfl (by omega) (by omega) hp6)]
theorem pp_end {M p : Nat} {s : uS} (hp : T ≤ p) (hT : T ≤ 80) (hp2 : p < 1000) : u_lp2 (ppB N T) (M + 1) s (mI p) = if s.1 11 5 = 2 then some (-1, s) else some (mI T, s) := by
  show b_X5_wrongAt_X4_13 N 76 (mI T) (ppJ N T) _ s (mI p) = _
  unfold b_X5_wrongAt_X4_13
  rw [if_pos (mle (by omega) (by omega) hp)]
  show (f_X4_takesEnd N s).bind _ = _
  unfold f_X4_takesEnd
  by_cases h : s.1 11 5 = 2
  · rw [if_pos h, if_pos h, o_bind, if_neg n10]
  · rw [if_neg h, if_neg h, o_bind, if_pos rfl]
theorem pp_not {M p : Nat} {s σ : uS} (hpT : p ≤ T) (hT : T ≤ 80) (hc : cX PS σ s) (hs : ∀ k, k < T → σ.1 2 k = x k &&& 255) (hk : s.1 11 5 ≠ 2) (h : p < T → p < 76 → ∃ s', f_X4_takes N s (hh x T 76 p) = some (0, s') ∧ cX PS σ s') : ∃ s', u_lp2 (ppB N T) (M + 1) s (mI p) = some (mI p, s') ∧ cX PS σ s' := by
  by_cases h1 : p < T
  · by_cases h2 : p < 76
    · obtain ⟨s', h3, h4⟩ := h h1 h2
      exact ⟨s', pp_0 h1 h2 hT hc (hs p h1) h3, h4⟩
    · exact ⟨s, pp_lim h1 (by omega) hT, hc⟩
  · have : p = T := by omega
    subst this
    exact ⟨s, by rw [pp_end (Nat.le_refl _) hT (by omega), if_neg hk], hc⟩
theorem in_let {x : Int32} : (if x < 97 then (0 : Int32) else if 104 < x then 0 else 1) = if inR x 97 104 then 1 else 0 := in_is (a := 97) (b := 104)
theorem tk2 {n : Nat} {s : uS} {y : Int32} (h4 : s.1 11 4 = mI (n + 1)) (h5 : s.1 11 5 = 2) (hn : n < 8) : f_X4_takes N s y = if y = 59 then some (1, u_pI s 11 5 0) else ((f_X4_takesLetter N s y (mI n)).bind fun v2 => u_ck (v2.1 = 0 ∨ v2.1 = 1) (some (v2.1, v2.2))) := by
  unfold f_X4_takes
  simp only [jn_eq]
  rw [h5, h4, if_neg (by decide), mI_pred (by omega) (by omega), show n + 1 - 1 = n by omega, if_neg (mI_n0 (by omega)), if_pos (rlt 8 8 rfl (by omega) (by omega) hn), if_neg (by decide)]
theorem tk1 {n : Nat} {s : uS} {y : Int32} (h4 : s.1 11 4 = mI (n + 1)) (h5 : s.1 11 5 = 1) (hn : n < 8) : f_X4_takes N s y = if inR y 48 57 then some (1, u_pI (u_pI (u_pI s 13 n (y - 48)) 14 n 0) 11 5 2) else some (0, s) := by
  unfold f_X4_takes f_X4_takesEdge
  simp only [jn_eq]
  rw [h5, h4, if_neg n10, mI_pred (by omega) (by omega), show n + 1 - 1 = n by omega, if_neg (mI_n0 (by omega)), if_pos (rlt 8 8 rfl (by omega) (by omega) hn), if_pos rfl, c_isDigit, o_bind]
  cases inR y 48 57
  · simp only [Bool.false_eq_true, if_false, if_true, o_bind]
    exact o_ck (Or.inl trivial)
  · simp only [if_true, i10, if_false]
    rw [cw_13 hn, o_bind, cw_14 hn, o_bind, o_bind, o_ck (Or.inr rfl)]
theorem tk0 {M n : Nat} {s : uS} {y : Int32} (h3 : s.1 11 3 = mI M) (h4 : s.1 11 4 = mI n) (h5 : s.1 11 5 = 0) (hM : M ≤ 8) (hn : n ≤ 8) : f_X4_takes N s y = if inR y 48 57 = true ∧ M + n < 8 then some (1, u_pI (u_pI (u_pI s 12 n (y - 48)) 11 4 (mI (n + 1))) 11 5 1) else some (0, s) := by
  unfold f_X4_takes f_X4_takesBelief
  simp only [jn_eq]
  rw [if_pos h5, c_isDigit, o_bind, h3, h4, mI_add]
  cases inR y 48 57
  · simp only [Bool.false_eq_true, if_false, if_true, o_bind, false_and]
    exact o_ck (Or.inl trivial)
  · simp only [if_true, i10, if_false, true_and]
    rw [if_neg (mI_n0 (by omega))]
    by_cases hlt : M + n < 8
    · rw [if_pos (rlt 8 8 rfl (by omega) (by omega) hlt), if_pos hlt, cw_12 (by omega), o_bind, p_Ia (by omega), h4, mI_succ, o_bind, o_ck (Or.inr rfl)]
    · rw [if_neg (rnlt 8 8 rfl (by omega) (by omega) (by omega)), if_neg hlt, o_bind, o_ck (Or.inl rfl)]
/-- the letters of one line -/
theorem pp_let {σ σm : uS} {M n : Nat} (hT : T ≤ 80) (hs : ∀ k, k < T → σ.1 2 k = σm.1 3 k &&& 255) (hn : M + n < 8) : ∀ (d p Mc Ml : Nat) (s u : uS) (la : Int32), T ≤ p + d → p ≤ T → p ≤ 76 → T < Mc + p → T + 1 < Ml + p → s.1 11 3 = mI M → s.1 11 4 = mI (n + 1) → s.1 11 5 = 2 → cX PS σ s → rdS u 3 T 76 p → mB7 σm u → s.1 14 n = u.1 5 (3 * n + 2) → lo8 (s.1 14 n) → ((la = -1 ∧ s.1 14 n = 0) ∨ ∃ l, l < 8 ∧ la = mI l ∧ tb (s.1 14 n) l = true ∧ ∀ i, l < i → tb (s.1 14 n) i = false) → ∃ (q : Nat) (s' u' : uS), p ≤ q ∧ q ≤ T ∧ q ≤ 76 ∧ cX PS σ s' ∧ mB7 σm u' ∧ (∀ Jr, u_lp2 (b_X12_readMan_41 N (mI (3 * n)) (mI (M + n)) Jr) Ml u la = Jr u') ∧ ((u_lp2 (ppB N T) Mc s (mI p) = some (mI q, s') ∧ u'.1 0 13 = mI q) ∨ (u_lp2 (ppB N T) Mc s (mI p) = u_lp2 (ppB N T) (Mc - (q - p)) s' (mI q) ∧ inR (hh (σm.1 3) T 76 q) 97 104 = false ∧ rdS u' 3 T 76 q ∧ s'.1 11 = s.1 11 ∧ s'.1 12 = s.1 12 ∧ s'.1 13 = s.1 13 ∧ (∀ i, i ≠ n → s'.1 14 i = s.1 14 i) ∧ s'.1 14 n = u'.1 5 (3 * n + 2) ∧ ∀ k, k ≠ 3 * n + 2 → u'.1 5 k = u.1 5 k)) := by
  intro d
  induction d with
  | zero =>
    intro p Mc Ml s u la hd hpT hp6 hMc hMl h3 h4 h5 hc hrd hB h14 hlo hla
    have : p = T := by omega
    subst this
    obtain ⟨Ml, rfl⟩ : ∃ m, Ml = m + 1 := ⟨Ml - 1, by omega⟩
    have hH : hh (σm.1 3) p 76 p = -1 := hh_out (by omega)
    refine ⟨p, s, u, Nat.le_refl _, Nat.le_refl _, hp6, hc, hB, fun Jr => ?_, Or.inr ⟨by rw [Nat.sub_self]; rfl, by rw [hH, inR_m1 (by omega) (by omega)], hrd, rfl, rfl, rfl, fun _ _ => rfl, h14, fun _ _ => rfl⟩⟩
    show b_X12_readMan_41 N _ _ Jr _ u la = _
    generalize u_lp2 (b_X12_readMan_41 N (mI (3 * n)) (mI (M + n)) Jr) Ml = R
    unfold b_X12_readMan_41
    rw [m_fine1 hrd.2.2.2.2, o_bind, if_neg n10, m_here hrd (Or.inl ⟨rfl, hT⟩) (by omega) (by omega), o_bind, mB7_x hB, hH, m_in, o_bind, show (97 : Int32) = mI 97 from rfl, show (104 : Int32) = mI 104 from rfl, in_is, inR_m1 (by omega) (by omega), if_neg Bool.false_ne_true, if_pos rfl]
  | succ d ih =>
    intro p Mc Ml s u la hd hpT hp6 hMc hMl h3 h4 h5 hc hrd hB h14 hlo hla
    obtain ⟨Ml, rfl⟩ : ∃ m, Ml = m + 1 := ⟨Ml - 1, by omega⟩
    obtain ⟨Mc, rfl⟩ : ∃ m, Mc = m + 1 := ⟨Mc - 1, by omega⟩
    have hhere : f_X12_here N u = some (hh (σm.1 3) T 76 p) := by rw [m_here hrd (Or.inl ⟨rfl, hT⟩) (by omega) (by omega), mB7_x hB]
    have hun : ∀ Jr, u_lp2 (b_X12_readMan_41 N (mI (3 * n)) (mI (M + n)) Jr) (Ml + 1) u la = if inR (hh (σm.1 3) T 76 p) 97 104 then (if hh (σm.1 3) T 76 p - 97 ≤ la then u_lp2 (b_X12_readMan_41 N (mI (3 * n)) (mI (M + n)) Jr) Ml (u_pI u 0 13 (mI p)) la else if hh (σm.1 3) T 76 p - 97 = mI (M + n) then u_lp2 (b_X12_readMan_41 N (mI (3 * n)) (mI (M + n)) Jr) Ml (u_pI u 0 13 (mI p)) la else u_lp2 (b_X12_readMan_41 N (mI (3 * n)) (mI (M + n)) Jr) Ml (u_pI (u_pI u 0 12 (mI (p + 1))) 5 (3 * n + 2) (u.1 5 (3 * n + 2) ||| (1 <<< ((hh (σm.1 3) T 76 p - 97) &&& 31)))) (hh (σm.1 3) T 76 p - 97)) else Jr u := by
      intro Jr
      show b_X12_readMan_41 N _ _ Jr _ u la = _
      generalize u_lp2 (b_X12_readMan_41 N (mI (3 * n)) (mI (M + n)) Jr) Ml = R
      unfold b_X12_readMan_41
      rw [m_fine1 hrd.2.2.2.2, o_bind, if_neg n10, hhere, o_bind, m_in, o_bind, in_let]
      cases inR (hh (σm.1 3) T 76 p) 97 104
      · simp only [Bool.false_eq_true, if_false, if_true]
      · simp only [if_true, i10, if_false, jn_eq, o_bind]
        rw [m_fault1 hrd.2.2.2.2, o_bind, hrd.2.2.2.1, mI_succ, show (2 : Int32) = mI 2 from rfl, mI_add, mr_5 (by omega), o_bind, mw_5 (by omega), o_bind, p_Ia (by omega)]
    cases hin : inR (hh (σm.1 3) T 76 p) 97 104
    · refine ⟨p, s, u, Nat.le_refl _, hpT, hp6, hc, hB, fun Jr => by rw [hun, hin, if_neg Bool.false_ne_true], Or.inr ⟨by rw [Nat.sub_self]; rfl, hin, hrd, rfl, rfl, rfl, fun _ _ => rfl, h14, fun _ _ => rfl⟩⟩
    · have hlt := inR_lt (by omega) (by omega) hin
      obtain ⟨o, ho, eo⟩ := let_val hin
      have hn59 : ¬ hh (σm.1 3) T 76 p = 59 := fun h => by rw [h] at hin; exact absurd hin (by decide)
      have hcl : f_X4_takes N s (hh (σm.1 3) T 76 p) = (if o = M + n ∨ ¬ (s.1 14 n >>> (mI o &&& 31)) = 0 then some (0, s) else some (1, u_pI s 14 n (s.1 14 n ||| (1 <<< (mI o &&& 31)))) : Option (Int32 × uS)) := by
        rw [tk2 h4 h5 (by omega), if_neg hn59]
        unfold f_X4_takesLetter
        simp only [jn_eq]
        rw [c_isLetter, hin, if_pos rfl, o_bind, if_neg n10, eo, h3, mI_add, cr_14 (by omega)]
        simp only [o_bind, mI_eq (show o < 1000000 by omega) (show M + n < 1000000 by omega)]
        by_cases c1 : o = M + n
        · rw [if_pos c1, if_pos (Or.inl c1), o_bind, o_ck (Or.inl rfl)]
        · rw [if_neg c1]
          by_cases c2 : (s.1 14 n >>> (mI o &&& 31)) = 0
          · rw [if_pos c2, if_neg (fun h => h.elim c1 (fun h => h c2)), cw_14 (by omega), o_bind, o_bind, o_ck (Or.inr rfl)]
          · rw [if_neg c2, if_pos (Or.inr c2), o_bind, o_ck (Or.inl rfl)]
      have heq : (mI o ≤ la) ↔ ¬ (s.1 14 n >>> (mI o &&& 31)) = 0 := by
        rw [shr_lo hlo ho]
        rcases hla with ⟨rfl, h0⟩ | ⟨l, hl, rfl, hl1, hl2⟩
        · constructor
          · intro h
            exact absurd h (Int32.not_le.mpr (m1_le o (by omega)).2)
          · intro h
            exact absurd (fun i _ => by rw [h0, tb_0]) h
        · rw [mI_le (by omega) (by omega)]
          constructor
          · intro h hall
            rw [hall l h] at hl1; cases hl1
          · intro h
            apply Classical.byContradiction
            intro hlt2
            exact h (fun i hi => hl2 i (by omega))
      by_cases hbad : o = M + n ∨ ¬ (s.1 14 n >>> (mI o &&& 31)) = 0
      · rw [if_pos hbad] at hcl
        refine ⟨p, s, u_pI u 0 13 (mI p), Nat.le_refl _, hpT, hp6, hc, hB.p0 (Or.inr rfl), fun Jr => ?_, Or.inl ⟨pp_0 hlt.1 hlt.2 hT hc (hs p hlt.1) hcl, p_II _ _ _ _⟩⟩
        obtain ⟨Ml, rfl⟩ : ∃ m, Ml = m + 1 := ⟨Ml - 1, by omega⟩
        have hnext : u_lp2 (b_X12_readMan_41 N (mI (3 * n)) (mI (M + n)) Jr) (Ml + 1) (u_pI u 0 13 (mI p)) la = Jr (u_pI u 0 13 (mI p)) := by
          show b_X12_readMan_41 N _ _ Jr _ _ la = _
          unfold b_X12_readMan_41
          rw [m_fine0 (by rw [p_II]; exact m1ne (by omega)), o_bind, if_pos rfl]
        rw [hun, hin, if_pos rfl, eo, hnext]
        by_cases c1 : mI o ≤ la
        · rw [if_pos c1]
        · rw [if_neg c1, if_pos (by rw [hbad.elim id (fun h => absurd (heq.mpr h) c1)])]
      · rw [if_neg hbad] at hcl
        have hno : ¬ o = M + n := fun h => hbad (Or.inl h)
        have hz : (s.1 14 n >>> (mI o &&& 31)) = 0 := Classical.byContradiction fun h => hbad (Or.inr h)
        have hnle : ¬ mI o ≤ la := fun h => heq.mp h hz
        have hz2 := (shr_lo hlo ho).mp hz
        have hnew : ∀ i, tb (s.1 14 n ||| (1 <<< (mI o &&& 31))) i = (tb (s.1 14 n) i || decide (i = o)) := fun i => by
          by_cases h32 : i < 32
          · rw [tb_or, tb_1 (by omega) h32]
          · rw [tb_hi (by omega), tb_hi (by omega)]; simp; omega
        obtain ⟨q, s', u', g1, g2, g3, g4, g5, g6, g7⟩ := ih (p + 1) Mc Ml (u_pI s 14 n (s.1 14 n ||| (1 <<< (mI o &&& 31)))) (u_pI (u_pI u 0 12 (mI (p + 1))) 5 (3 * n + 2) (u.1 5 (3 * n + 2) ||| (1 <<< (mI o &&& 31)))) (mI o) (by omega) (by omega) (by omega) (by omega) (by omega) (by rw [p_Ia (by omega)]; exact h3) (by rw [p_Ia (by omega)]; exact h4) (by rw [p_Ia (by omega)]; exact h5) (cXp hc (by unfold PS; omega)) (rd5 (rd12' hrd)) ((hB.p0 (Or.inl rfl)).pI (by omega) (Or.inl rfl)) (by rw [p_II, p_II, h14]) (by rw [p_II]; exact lo8_or hlo (lo8_1 ho)) (Or.inr ⟨o, ho, rfl, by rw [p_II, hnew]; simp, fun i hi => by rw [p_II, hnew, hz2 i (by omega)]; simp; omega⟩)
        have st := pp_1 (M := Mc) hlt.1 hlt.2 hT hc (hs p hlt.1) hcl
        refine ⟨q, s', u', by omega, g2, g3, g4, g5, fun Jr => ?_, ?_⟩
        · rw [hun, hin, if_pos rfl, eo, if_neg hnle, if_neg (by rw [mI_eq (by omega) (by omega)]; exact hno)]
          exact g6 Jr
        · rcases g7 with ⟨e1, e2⟩ | ⟨e1, e2, e3, e4, e5, e6, e7, e8, e9⟩
          · exact Or.inl ⟨by rw [st]; exact e1, e2⟩
          · refine Or.inr ⟨by rw [st, e1, show Mc + 1 - (q - p) = Mc - (q - (p + 1)) by omega], e2, e3, by rw [e4, p_Ia (by omega)], by rw [e5, p_Ia (by omega)], by rw [e6, p_Ia (by omega)], fun i hi => by rw [e7 i hi, p_Is hi], e8, fun k hk => by rw [e9 k hk, p_Is hk, p_Ia (by omega)]⟩
/-- what both read is alike, or wrong at the same place -/
theorem pp_read {σ σm : uS} {M : Nat} (hT : T ≤ 80) (hs : ∀ k, k < T → σ.1 2 k = σm.1 3 k &&& 255) (hb : ∀ k, k < T → u_nar 2 (σm.1 3 k) = σm.1 3 k) (hM : M ≤ 8) (hN : 500 < N) : ∀ (d p n Mc Mm : Nat) (s t : uS), T < p + d → p ≤ T → p ≤ 76 → M + n ≤ 8 → T < Mc + p → T + 2 < Mm + p → s.1 11 3 = mI M → s.1 11 4 = mI n → s.1 11 5 = 0 → cX PS σ s → rdS t 3 T 76 p → t.1 0 2 = mI M → mB7 σm t → (∀ i, i < n → pR s t i) → ∃ (w : Int32) (s' t' : uS) (y : Int32), u_lp2 (ppB N T) Mc s (mI p) = some (w, s') ∧ (∀ J, u_lp3 (b_X12_people_24 N J) Mm t (mI n) 1 = J t' y) ∧ cX PS σ s' ∧ mB7 σm t' ∧ ((w = -1 ∧ ∃ n', M + n' ≤ 8 ∧ y = mI n' ∧ s'.1 11 4 = mI n' ∧ rdS t' 3 T 76 T ∧ ∀ i, i < n' → pR s' t' i) ∨ ∃ e, e ≤ 80 ∧ w = mI e ∧ (t'.1 0 13 = mI e ∨ (rdS t' 3 T 76 e ∧ e < T))) := by
  intro d
  induction d with
  | zero =>
    intro p n Mc Mm s t hd hpT
    omega
  | succ d ih =>
    intro p n Mc Mm s t hd hpT hp6 hn8 hMc hMm h3 h4 h5 hc hrd hMen hB hR
    obtain ⟨Mm, rfl⟩ : ∃ m, Mm = m + 1 + 1 := ⟨Mm - 2, by omega⟩
    obtain ⟨Mc, rfl⟩ : ∃ m, Mc = m + 1 := ⟨Mc - 1, by omega⟩
    have e3n : (3 : Int32) * mI n = mI (3 * n) := by rw [show (3 : Int32) = mI 3 from rfl, mI_mul]
    have eMn : (mI (M + n) = 8) = (M + n = 8) := mI_eq (b := 8) (by omega) (by omega)
    -- what the reference does with a line
    have refstep : ∀ J, u_lp3 (b_X12_people_24 N J) (Mm + 1 + 1) t (mI n) 1 = ((if M + n = 8 then some (u_pI t 0 13 (mI p)) else f_X12_readMan N t (mI (3 * n)) (mI (M + n))).bind fun s26 => (f_X12_passes N s26 59).bind fun v29 => u_lp3 (b_X12_people_24 N J) (Mm + 1) v29.2 (mI (n + 1)) v29.1) := by
      intro J
      show b_X12_people_24 N J (u_lp3 (b_X12_people_24 N J) (Mm + 1)) t (mI n) 1 = _
      generalize u_lp3 (b_X12_people_24 N J) (Mm + 1) = R
      unfold b_X12_people_24
      rw [if_neg n10, m_fine1 hrd.2.2.2.2, o_bind, if_neg n10, hMen, mI_add, e3n]
      simp only [jn_eq, mI_succ, eMn]
      by_cases hc8 : M + n = 8
      · rw [if_pos hc8, if_pos hc8, m_fault1 hrd.2.2.2.2, o_bind, o_bind, hrd.2.2.2.1]
      · rw [if_neg hc8, if_neg hc8]
    have refend : ∀ J t' y, u_lp3 (b_X12_people_24 N J) (Mm + 1) t' y 0 = J t' y := by
      intro J t' y
      show b_X12_people_24 N J _ t' y 0 = _
      unfold b_X12_people_24
      rw [if_pos rfl]
    have bad : ∀ (e : Nat) (s' t' : uS), e ≤ 80 → u_lp2 (ppB N T) (Mc + 1) s (mI p) = some (mI e, s') → (if M + n = 8 then some (u_pI t 0 13 (mI p)) else f_X12_readMan N t (mI (3 * n)) (mI (M + n))) = some t' → cX PS σ s' → mB7 σm t' → t'.1 0 13 = mI e → ∃ (w : Int32) (s' t' : uS) (y : Int32), u_lp2 (ppB N T) (Mc + 1) s (mI p) = some (w, s') ∧ (∀ J, u_lp3 (b_X12_people_24 N J) (Mm + 1 + 1) t (mI n) 1 = J t' y) ∧ cX PS σ s' ∧ mB7 σm t' ∧ ((w = -1 ∧ ∃ n', M + n' ≤ 8 ∧ y = mI n' ∧ s'.1 11 4 = mI n' ∧ rdS t' 3 T 76 T ∧ ∀ i, i < n' → pR s' t' i) ∨ ∃ e, e ≤ 80 ∧ w = mI e ∧ (t'.1 0 13 = mI e ∨ (rdS t' 3 T 76 e ∧ e < T))) := by
      intro e s' t' he hcl hre gc gB h13
      refine ⟨mI e, s', t', mI (n + 1), hcl, fun J => ?_, gc, gB, Or.inr ⟨e, he, rfl, Or.inl h13⟩⟩
      rw [refstep, hre, o_bind, m_passes0 (by rw [h13]; exact m1ne (by omega)), o_bind]
      exact refend J t' _
    by_cases hc8 : M + n = 8
    · obtain ⟨s', e1, e2⟩ := pp_not (N := N) (M := Mc) (x := σm.1 3) hpT hT hc hs (by rw [h5]; decide) (fun _ _ => ⟨s, by rw [tk0 h3 h4 h5 hM (by omega), if_neg (fun h => by omega)], hc⟩)
      exact bad p s' _ (by omega) e1 (by rw [if_pos hc8]) e2 (hB.p0 (Or.inr rfl)) (p_II _ _ _ _)
    · have hlt8 : M + n < 8 := by omega
      rw [if_neg hc8] at bad refstep
      -- the reference's line
      have hone := m_one7 (N := N) (a := 48) (m := 10) hB hrd hT (by omega) hb (by omega) (by omega)
      have hone : f_X12_oneOf N t 48 10 = _ := hone
      have hre : f_X12_readMan N t (mI (3 * n)) (mI (M + n)) = (f_X12_oneOf N t 48 10).bind fun v1 => (u_wI ZM v1.2 0 5 (mI (3 * n)) v1.1).bind fun s2 => (f_X12_oneOf N s2 48 10).bind fun v3 => (u_wI ZM v3.2 0 5 (mI (3 * n + 1)) v3.1).bind fun s4 => (u_wI ZM s4 0 5 (mI (3 * n + 2)) 0).bind fun s5 => u_lp2 (b_X12_readMan_41 N (mI (3 * n)) (mI (M + n)) (fun s6 => some s6)) N s5 (-1) := by
        unfold f_X12_readMan
        simp only [jn_eq, mI_succ, show (2 : Int32) = mI 2 from rfl, mI_add]
      have lpbad : ∀ u, u.1 0 13 ≠ -1 → u_lp2 (b_X12_readMan_41 N (mI (3 * n)) (mI (M + n)) (fun s6 => some s6)) N u (-1) = some u := by
        intro u hu
        obtain ⟨N', rfl⟩ : ∃ m, N = m + 1 := ⟨N - 1, by omega⟩
        show b_X12_readMan_41 (N' + 1) _ _ _ _ u (-1) = _
        unfold b_X12_readMan_41
        rw [m_fine0 hu, o_bind, if_pos rfl]
      rw [hone] at hre
      cases hin : inR (hh (σm.1 3) T 76 p) 48 (48 + 10 - 1)
      · -- no belief
        obtain ⟨s', e1, e2⟩ := pp_not (N := N) (M := Mc) (x := σm.1 3) hpT hT hc hs (by rw [h5]; decide) (fun _ _ => ⟨s, by rw [tk0 h3 h4 h5 hM (by omega), if_neg (fun h => by rw [hin] at h; cases h.1)], hc⟩)
        have hf1 : (u_pI (u_pI t 0 13 (mI p)) 5 (3 * n) 0).1 0 13 ≠ -1 := by rw [p_Ia (by omega), p_II]; exact m1ne (by omega)
        have hf3 : (u_pI (u_pI (u_pI (u_pI t 0 13 (mI p)) 5 (3 * n) 0) 5 (3 * n + 1) 0) 5 (3 * n + 2) 0).1 0 13 ≠ -1 := by rw [p_Ia (by omega), p_Ia (by omega)]; exact hf1
        rw [hin, if_neg Bool.false_ne_true, o_bind, mw_5 (by omega), o_bind, m_oneOf0 hf1, o_bind, mw_5 (by omega), o_bind, mw_5 (by omega), o_bind, lpbad _ hf3] at hre
        exact bad p s' _ (by omega) e1 hre e2 ((((hB.p0 (Or.inr rfl)).pI (by omega) (Or.inl rfl)).pI (by omega) (Or.inl rfl)).pI (by omega) (Or.inl rfl)) (by rw [p_Ia (by omega), p_Ia (by omega), p_Ia (by omega), p_II])
      · have hlt := inR_lt (by omega) (by omega) hin
        have hdg := dig_val hin
        have htk := tk0 (N := N) (y := hh (σm.1 3) T 76 p) h3 h4 h5 hM (by omega)
        rw [if_pos ⟨hin, hlt8⟩] at htk
        have st1 := pp_1 (M := Mc) hlt.1 hlt.2 hT hc (hs p hlt.1) htk
        have hc1 : cX PS σ (u_pI (u_pI (u_pI s 12 n (hh (σm.1 3) T 76 p - 48)) 11 4 (mI (n + 1))) 11 5 1) := cXp (cXp (cXp hc (by unfold PS; omega)) (by unfold PS; omega)) (by unfold PS; omega)
        have k5 : (u_pI (u_pI (u_pI s 12 n (hh (σm.1 3) T 76 p - 48)) 11 4 (mI (n + 1))) 11 5 1).1 11 5 = 1 := p_II _ _ _ _
        have k4 : (u_pI (u_pI (u_pI s 12 n (hh (σm.1 3) T 76 p - 48)) 11 4 (mI (n + 1))) 11 5 1).1 11 4 = mI (n + 1) := by rw [p_Is (by omega), p_II]
        have k3 : (u_pI (u_pI (u_pI s 12 n (hh (σm.1 3) T 76 p - 48)) 11 4 (mI (n + 1))) 11 5 1).1 11 3 = mI M := by rw [p_Is (by omega), p_Is (by omega), p_Ia (by omega)]; exact h3
        have k12 : ∀ i, (u_pI (u_pI (u_pI s 12 n (hh (σm.1 3) T 76 p - 48)) 11 4 (mI (n + 1))) 11 5 1).1 12 i = if i = n then hh (σm.1 3) T 76 p - 48 else s.1 12 i := fun i => by
          rw [p_Ia (by omega), p_Ia (by omega)]
          by_cases hi : i = n
          · rw [hi, p_II, if_pos rfl]
          · rw [p_Is hi, if_neg hi]
        have k13 : (u_pI (u_pI (u_pI s 12 n (hh (σm.1 3) T 76 p - 48)) 11 4 (mI (n + 1))) 11 5 1).1 13 = s.1 13 := by rw [p_Ia (by omega), p_Ia (by omega), p_Ia (by omega)]
        have k14 : (u_pI (u_pI (u_pI s 12 n (hh (σm.1 3) T 76 p - 48)) 11 4 (mI (n + 1))) 11 5 1).1 14 = s.1 14 := by rw [p_Ia (by omega), p_Ia (by omega), p_Ia (by omega)]
        generalize u_pI (u_pI (u_pI s 12 n (hh (σm.1 3) T 76 p - 48)) 11 4 (mI (n + 1))) 11 5 1 = sA at st1 hc1 k5 k4 k3 k12 k13 k14
        rw [hin, if_pos rfl, o_bind, mw_5 (by omega), o_bind] at hre
        have hB1 : mB7 σm (u_pI (u_pI t 0 12 (mI (p + 1))) 5 (3 * n) (hh (σm.1 3) T 76 p - mI 48)) := (hB.p0 (Or.inl rfl)).pI (by omega) (Or.inl rfl)
        have hrd1 : rdS (u_pI (u_pI t 0 12 (mI (p + 1))) 5 (3 * n) (hh (σm.1 3) T 76 p - mI 48)) 3 T 76 (p + 1) := rd5 (rd12' hrd)
        have l5 : ∀ k, (u_pI (u_pI t 0 12 (mI (p + 1))) 5 (3 * n) (hh (σm.1 3) T 76 p - mI 48)).1 5 k = if k = 3 * n then hh (σm.1 3) T 76 p - 48 else t.1 5 k := fun k => by
          by_cases hk : k = 3 * n
          · rw [hk, p_II, if_pos rfl]; rfl
          · rw [p_Is hk, if_neg hk, p_Ia (by omega)]
        have lM : (u_pI (u_pI t 0 12 (mI (p + 1))) 5 (3 * n) (hh (σm.1 3) T 76 p - mI 48)).1 0 2 = mI M := by rw [p_Ia (by omega), p_Is (by omega)]; exact hMen
        generalize u_pI (u_pI t 0 12 (mI (p + 1))) 5 (3 * n) (hh (σm.1 3) T 76 p - mI 48) = tA at hre hB1 hrd1 l5 lM
        have hone1 := m_one7 (N := N) (a := 48) (m := 10) hB1 hrd1 hT (by omega) hb (by omega) (by omega)
        have hone1 : f_X12_oneOf N tA 48 10 = _ := hone1
        rw [hone1] at hre
        obtain ⟨Mc, rfl⟩ : ∃ m, Mc = m + 1 := ⟨Mc - 1, by omega⟩
        cases hin1 : inR (hh (σm.1 3) T 76 (p + 1)) 48 (48 + 10 - 1)
        · -- no edge
          obtain ⟨s', e1, e2⟩ := pp_not (N := N) (M := Mc) (p := p + 1) (x := σm.1 3) (by omega) hT hc1 hs (by rw [k5]; decide) (fun _ _ => ⟨sA, by rw [tk1 k4 k5 (by omega), if_neg (fun h => by rw [hin1] at h; cases h)], hc1⟩)
          have hf3 : (u_pI (u_pI (u_pI tA 0 13 (mI (p + 1))) 5 (3 * n + 1) 0) 5 (3 * n + 2) 0).1 0 13 ≠ -1 := by rw [p_Ia (by omega), p_Ia (by omega), p_II]; exact m1ne (by omega)
          rw [hin1, if_neg Bool.false_ne_true, o_bind, mw_5 (by omega), o_bind, mw_5 (by omega), o_bind, lpbad _ hf3] at hre
          exact bad (p + 1) s' _ (by omega) (by rw [st1]; exact e1) hre e2 (((hB1.p0 (Or.inr rfl)).pI (by omega) (Or.inl rfl)).pI (by omega) (Or.inl rfl)) (by rw [p_Ia (by omega), p_Ia (by omega), p_II])
        · have hlt1 := inR_lt (by omega) (by omega) hin1
          have htk1 := tk1 (N := N) (y := hh (σm.1 3) T 76 (p + 1)) k4 k5 (by omega)
          rw [if_pos hin1] at htk1
          have st2 := pp_1 (M := Mc) hlt1.1 hlt1.2 hT hc1 (hs (p + 1) hlt1.1) htk1
          rw [hin1, if_pos rfl, o_bind, mw_5 (by omega), o_bind, mw_5 (by omega), o_bind] at hre
          have hc2 : cX PS σ (u_pI (u_pI (u_pI sA 13 n (hh (σm.1 3) T 76 (p + 1) - 48)) 14 n 0) 11 5 2) := cXp (cXp (cXp hc1 (by unfold PS; omega)) (by unfold PS; omega)) (by unfold PS; omega)
          have hB2 : mB7 σm (u_pI (u_pI (u_pI tA 0 12 (mI (p + 1 + 1))) 5 (3 * n + 1) (hh (σm.1 3) T 76 (p + 1) - mI 48)) 5 (3 * n + 2) 0) := ((hB1.p0 (Or.inl rfl)).pI (by omega) (Or.inl rfl)).pI (by omega) (Or.inl rfl)
          have hrd2 : rdS (u_pI (u_pI (u_pI tA 0 12 (mI (p + 1 + 1))) 5 (3 * n + 1) (hh (σm.1 3) T 76 (p + 1) - mI 48)) 5 (3 * n + 2) 0) 3 T 76 (p + 1 + 1) := rd5 (rd5 (rd12' hrd1))
          have e14 : (u_pI (u_pI (u_pI sA 13 n (hh (σm.1 3) T 76 (p + 1) - 48)) 14 n 0) 11 5 2).1 14 n = 0 := by rw [p_Ia (by omega), p_II]
          obtain ⟨q, s', u', g1, g2, g3, g4, g5, g6, g7⟩ := pp_let (N := N) (σ := σ) (σm := σm) (M := M) (n := n) hT hs hlt8 T (p + 1 + 1) Mc N (u_pI (u_pI (u_pI sA 13 n (hh (σm.1 3) T 76 (p + 1) - 48)) 14 n 0) 11 5 2) (u_pI (u_pI (u_pI tA 0 12 (mI (p + 1 + 1))) 5 (3 * n + 1) (hh (σm.1 3) T 76 (p + 1) - mI 48)) 5 (3 * n + 2) 0) (-1) (by omega) (by omega) (by omega) (by omega) (by omega) (by rw [p_Is (by omega), p_Ia (by omega), p_Ia (by omega)]; exact k3) (by rw [p_Is (by omega), p_Ia (by omega), p_Ia (by omega)]; exact k4) (p_II _ _ _ _) hc2 hrd2 hB2 (by rw [e14, p_II]) (by rw [e14]; exact lo8_0) (Or.inl ⟨rfl, e14⟩)
          rw [g6] at hre
          rcases g7 with ⟨e1, e2⟩ | ⟨e1, e2, e3, e4, e5, e6, e7, e8, e9⟩
          · exact bad q s' u' (by omega) (by rw [st1, st2]; exact e1) hre g4 g5 e2
          · -- a whole line
            have rows : ∀ i, i < n + 1 → pR s' u' i := by
              intro i hi
              have f12 : s'.1 12 i = if i = n then hh (σm.1 3) T 76 p - 48 else s.1 12 i := by rw [e5, p_Ia (by omega), p_Ia (by omega), p_Ia (by omega)]; exact k12 i
              have f5 : ∀ k, k ≠ 3 * n + 2 → u'.1 5 k = if k = 3 * n + 1 then hh (σm.1 3) T 76 (p + 1) - 48 else if k = 3 * n then hh (σm.1 3) T 76 p - 48 else t.1 5 k := fun k hk => by
                rw [e9 k hk, p_Is hk]
                by_cases h1 : k = 3 * n + 1
                · rw [h1, p_II, if_pos rfl]; rfl
                · rw [p_Is h1, if_neg h1, p_Ia (by omega)]; exact l5 k
              by_cases hin : i = n
              · subst hin
                refine ⟨?_, ?_, e8, ?_⟩
                · rw [f12, if_pos rfl, f5 _ (by omega), if_neg (by omega), if_pos rfl]
                · rw [e6, p_Ia (by omega), p_Ia (by omega), p_II, f5 _ (by omega), if_pos rfl]
                · rw [f12, if_pos rfl]; exact hdg
              · obtain ⟨r1, r2, r3, r4⟩ := hR i (by omega)
                refine ⟨?_, ?_, ?_, ?_⟩
                · rw [f12, if_neg hin, f5 _ (by omega), if_neg (by omega), if_neg (by omega)]; exact r1
                · rw [e6, p_Ia (by omega), p_Ia (by omega), p_Is hin, k13, f5 _ (by omega), if_neg (by omega), if_neg (by omega)]; exact r2
                · rw [e7 i hin, p_Ia (by omega), p_Is hin, p_Ia (by omega), k14, f5 _ (by omega), if_neg (by omega), if_neg (by omega)]; exact r3
                · rw [f12, if_neg hin]; exact r4
            have f4 : s'.1 11 4 = mI (n + 1) := by rw [e4, p_Is (by omega), p_Ia (by omega), p_Ia (by omega)]; exact k4
            have f5' : s'.1 11 5 = 2 := by rw [e4, p_II]
            have f3 : s'.1 11 3 = mI M := by rw [e4, p_Is (by omega), p_Ia (by omega), p_Ia (by omega)]; exact k3
            have fM : u'.1 0 2 = mI M := by rw [g5.2.1 2 (by omega), (BT_fr σm 76).2.1 2 (by unfold T5; omega)]; rw [hB.2.1 2 (by omega), (BT_fr σm 76).2.1 2 (by unfold T5; omega)] at hMen; exact hMen
            have hcls : u_lp2 (ppB N T) (Mc + 1 + 1) s (mI p) = u_lp2 (ppB N T) (Mc - (q - (p + 1 + 1))) s' (mI q) := by rw [st1, st2]; exact e1
            obtain ⟨Md, hMd⟩ : ∃ m, Mc - (q - (p + 1 + 1)) = m + 1 := ⟨Mc - (q - (p + 1 + 1)) - 1, by omega⟩
            rw [hMd] at hcls
            have hps := m_passes1 (N := N) (c := 59) e3 (Or.inl ⟨rfl, hT⟩) (by omega) (by omega)
            rw [mB7_x g5] at hps
            by_cases h59 : hh (σm.1 3) T 76 q = 59
            · have hq : q < T ∧ q < 76 := Classical.byContradiction fun h => by rw [hh_out h] at h59; exact absurd h59 (by decide)
              rw [if_pos h59] at hps
              have htk3 := tk2 (N := N) (y := hh (σm.1 3) T 76 q) f4 f5' (by omega)
              rw [if_pos h59] at htk3
              have st3 := pp_1 (M := Md) hq.1 hq.2 hT g4 (hs q hq.1) htk3
              obtain ⟨w, s2, t2, y, r1, r2, r3⟩ := ih (q + 1) (n + 1) Md (Mm + 1) (u_pI s' 11 5 0) (u_pI u' 0 12 (mI (q + 1))) (by omega) (by omega) (by omega) (by omega) (by omega) (by omega) (by rw [p_Is (by omega)]; exact f3) (by rw [p_Is (by omega)]; exact f4) (p_II _ _ _ _) (cXp g4 (by unfold PS; omega)) (rd12' e3) (by rw [p_Is (by omega)]; exact fM) (g5.p0 (Or.inl rfl)) (fun i hi => by
                have := rows i hi
                unfold pR at this ⊢
                rw [p_Ia (by omega), p_Ia (by omega), p_Ia (by omega), p_Ia (by omega)]
                exact this)
              refine ⟨w, s2, t2, y, by rw [hcls, st3]; exact r1, fun J => ?_, r3⟩
              rw [refstep, hre, o_bind, hps, o_bind]
              exact r2 J
            · rw [if_neg h59] at hps
              have hrf : ∀ J, u_lp3 (b_X12_people_24 N J) (Mm + 1 + 1) t (mI n) 1 = J u' (mI (n + 1)) := fun J => by
                rw [refstep, hre, o_bind, hps, o_bind]
                exact refend J u' _
              by_cases hqT : q < T
              · have hcl : ∃ s2, u_lp2 (ppB N T) (Md + 1) s' (mI q) = some (mI q, s2) ∧ cX PS σ s2 := by
                  by_cases hq7 : q < 76
                  · refine ⟨s', pp_0 hqT hq7 hT g4 (hs q hqT) ?_, g4⟩
                    rw [tk2 f4 f5' (by omega), if_neg h59]
                    unfold f_X4_takesLetter
                    simp only [jn_eq]
                    rw [c_isLetter, e2, if_neg Bool.false_ne_true, o_bind, if_pos rfl, o_bind, o_ck (Or.inl rfl)]
                  · exact ⟨s', pp_lim hqT (by omega) hT, g4⟩
                obtain ⟨s2, w1, w2⟩ := hcl
                exact ⟨mI q, s2, u', mI (n + 1), by rw [hcls]; exact w1, hrf, w2, g5, Or.inr ⟨q, by omega, rfl, Or.inr ⟨e3, hqT⟩⟩⟩
              · have hqe : q = T := by omega
                subst hqe
                exact ⟨-1, s', u', mI (n + 1), by rw [hcls, pp_end (Nat.le_refl _) hT (by omega), if_pos f5'], hrf, g4, g5, Or.inl ⟨rfl, n + 1, by omega, rfl, f4, e3, rows⟩⟩
end PP
