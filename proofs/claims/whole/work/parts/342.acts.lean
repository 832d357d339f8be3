/-! PURE LAYER: one act of a week -/
theorem lpr42 {a1 : Type} {a2 : Type} {a3 : Type} {a4 : Type} {b1 : Type} {b2 : Type} {β γ : Type} {B : (a1 → a2 → a3 → a4 → Option β) → a1 → a2 → a3 → a4 → Option β} {C : (b1 → b2 → Option γ) → b1 → b2 → Option γ} {P : β → γ → Prop} (I : Nat → a1 → a2 → a3 → a4 → b1 → b2 → Prop) (n N : Nat) (x1 : a1) (x2 : a2) (x3 : a3) (x4 : a4) (w1 : b1) (w2 : b2) (hN : n < N) (hs : ∀ (j : Nat) (y1 : a1) (y2 : a2) (y3 : a3) (y4 : a4) (z1 : b1) (z2 : b2) (rec : a1 → a2 → a3 → a4 → Option β) (rec2 : b1 → b2 → Option γ), j ≤ n → I j y1 y2 y3 y4 z1 z2 → (∀ (y1' : a1) (y2' : a2) (y3' : a3) (y4' : a4) (z1' : b1) (z2' : b2), j < n → I (j + 1) y1' y2' y3' y4' z1' z2' → ok (rec y1' y2' y3' y4') (fun a => ok (rec2 z1' z2') (fun b => P a b))) → ok (B rec y1 y2 y3 y4) (fun a => ok (C rec2 z1 z2) (fun b => P a b))) (h0 : I 0 x1 x2 x3 x4 w1 w2) : ok (u_lp4 B N x1 x2 x3 x4) (fun a => ok (u_lp2 C N w1 w2) (fun b => P a b)) := by
  have h : ∀ (d M j : Nat) (y1 : a1) (y2 : a2) (y3 : a3) (y4 : a4) (z1 : b1) (z2 : b2), j + d = n → d < M → I j y1 y2 y3 y4 z1 z2 → ok (u_lp4 B M y1 y2 y3 y4) (fun a => ok (u_lp2 C M z1 z2) (fun b => P a b)) := by
    intro d
    induction d with
    | zero =>
      intro M j y1 y2 y3 y4 z1 z2 hj hM hI
      obtain ⟨M, rfl⟩ : ∃ m, M = m + 1 := ⟨M - 1, by omega⟩
      exact hs j y1 y2 y3 y4 z1 z2 _ _ (by omega) hI (fun _ _ _ _ _ _ hlt => absurd hlt (by omega))
    | succ d ih =>
      intro M j y1 y2 y3 y4 z1 z2 hj hM hI
      obtain ⟨M, rfl⟩ : ∃ m, M = m + 1 := ⟨M - 1, by omega⟩
      exact hs j y1 y2 y3 y4 z1 z2 _ _ (by omega) hI (fun y1' y2' y3' y4' z1' z2' hlt hI2 => ih M (j + 1) y1' y2' y3' y4' z1' z2' (by omega) (by omega) hI2)
  exact h n N 0 x1 x2 x3 x4 w1 w2 (by omega) hN h0
theorem RelC.now10 {N j M F : Nat} {ρ : Rho} {σc σm s2 sm : uS} {v' : Nat → Int32} (h : RelC N j M F ρ σc σm) (h32 : cS s2 32 M F v' (σm.1 2)) (hc : cAct σc s2) (hv : vok (600 * (j + 1)) M F v') (hm : mfr (fun c => c = 1 ∨ c = 8 ∨ c = 10 ∨ c = 13) T0 σm sm) (hV : ∀ k, k < 37 → sm.1 1 k = v' k) : RelC N (j + 1) M F ρ s2 sm := by
  obtain ⟨a1, a2, a3, a4, a5, a6⟩ := h
  obtain ⟨b1, b2, b3, b4, b5, b6, b7⟩ := a1
  have hrr := a6.r
  have hqq := a6.q
  have e2 : sm.1 2 = σm.1 2 := hm.1 2 (by omega) (by omega)
  have cc : ∀ a, a < 22 ∨ 50 ≤ a → s2.1 a = σc.1 a := fun a h => hc.1 a (by omega) (by omega) (by omega) (by omega) (by omega) (by omega)
  have ss : ∀ s, s < 10 ∨ 18 < s → sm.1 0 s = σm.1 0 s := fun s h => hm.2.1 s (by unfold T0; omega)
  refine ⟨⟨b1, b2, b3, by rw [ss 1 (by omega)]; exact b4, by rw [ss 2 (by omega)]; exact b5, ?_, vok_congr b1 b3 (fun j hj => (hV j hj).symm) hv⟩, a2.to (by rw [cc 1 (by omega)]) (cc 2 (by omega)) (hm.1 3 (by omega) (by omega)) (ss 5 (by omega)), a3.to (cc 8 (by omega)) (hm.1 16 (by omega) (by omega)) (ss 29 (by omega)) (ss 30 (by omega)), a4.to (by omega) (fun a x y => cc a (by omega)) (by rw [cc 5 (by omega)]) (by rw [hc.2]) (hm.1 9 (by omega) (by omega)) e2 (ss 21 (by omega)), a5.to (by omega) (by omega) (fun a x y => cc a (by omega)) (by rw [cc 5 (by omega)]) (by rw [hc.2]) (hm.1 18 (by omega) (by omega)) e2 (hm.1 19 (by omega) (by omega)) (hm.1 20 (by omega) (by omega)) (ss 33 (by omega)), a6.to (fun r hr => ?_) (by rw [hc.2]) (fun q hq => ?_) (hm.2.2.2 0 15 (by omega)) (hm.2.2.2 0 16 (by omega)) (hm.2.1 17 (by unfold T0; omega))⟩
  · rw [e2]; exact cS_congr b1 b3 (fun j hj => (hV j hj).symm) (fun _ _ => rfl) h32
  · have := hrr r hr
    exact ⟨hc.1 r (by omega) (by omega) (by omega) (by omega) (by omega) (by omega), hc.1 (r + 1) (by omega) (by omega) (by omega) (by omega) (by omega) (by omega)⟩
  · have := hqq q hq
    exact hm.1 q (by omega) (by omega)
theorem RelC.text0s {N j M F : Nat} {ρ : Rho} {σc σm s t : uS} {S : Nat → Prop} (h : RelC N j M F ρ σc σm) (hS : ∀ a, S a → (9 ≤ a ∧ a < 19) ∨ (22 ≤ a ∧ a < 32)) (hr : ∀ r, σc.2.2 0 13 = some r → ¬ S r ∧ ¬ S (r + 1)) (hc : cX S σc s) (hm : mX σm t) : RelC N j M F ρ s t := by
  obtain ⟨a1, a2, a3, a4, a5, a6⟩ := h
  obtain ⟨c1, c2, c3⟩ := hc
  obtain ⟨m1, m2, m3, m4, m5, m6⟩ := hm
  have hrr := a6.r
  have hqq := a6.q
  have c1' : ∀ a, a ≠ 1 → a < 9 ∨ (19 ≤ a ∧ a < 22) ∨ 32 ≤ a → s.1 a = σc.1 a := fun a h1 h2 => c1 a h1 (fun hs => by have := hS a hs; omega)
  exact ⟨a1.to (Nat.le_refl _) (fun a x y => c1' a (by omega) (by omega)) (m1 1 (by omega)) (m1 2 (by omega)) (m2 1 (by omega)) (m2 2 (by omega)), ⟨0, by omega, c2, m4, fun k hk => absurd hk (by omega)⟩, a3.to (c1' 8 (by omega) (by omega)) (m1 16 (by omega)) (m2 29 (by omega)) (m2 30 (by omega)), a4.to (Nat.le_refl _) (fun a x y => c1' a (by omega) (by omega)) (by rw [c1' 5 (by omega) (by omega)]) (by rw [c3]) (m1 9 (by omega)) (m1 2 (by omega)) (m2 21 (by omega)), a5.to (Nat.le_refl _) (Nat.le_refl _) (fun a x y => c1' a (by omega) (by omega)) (by rw [c1' 5 (by omega) (by omega)]) (by rw [c3]) (m1 18 (by omega)) (m1 2 (by omega)) (m1 19 (by omega)) (m1 20 (by omega)) (m2 33 (by omega)), a6.to (fun r h => ⟨c1 r (by have := hrr r h; omega) (hr r h).1, c1 (r + 1) (by have := hrr r h; omega) (hr r h).2⟩) (by rw [c3]) (fun q h => m3 q (by have := hqq q h; omega)) (m6 15 (by omega)) (m6 16 (by omega)) (m2 17 (by omega))⟩
theorem chgN_nn {ρ : Rho} {e v : Nat → Int32} {M F : Nat} (hM : M ≤ 8) : ∀ n, ∃ m, m ≤ 8 * n ∧ chgN ρ e M F v n = mI m
  | 0 => ⟨0, by omega, rfl⟩
  | n + 1 => by
    obtain ⟨m, h1, h2⟩ := chgN_nn (ρ := ρ) (e := e) (v := v) (F := F) hM n
    refine ⟨m + cnt (sIn (crossN ρ e M F v n) e M ^^^ sIn (crossV ρ (crossN ρ e M F v n) e M F) e M) 8, ?_, ?_⟩
    · have := cnt_le (sIn (crossN ρ e M F v n) e M ^^^ sIn (crossV ρ (crossN ρ e M F v n) e M F) e M) 8
      omega
    · show chgN ρ e M F v n + chg ρ (crossN ρ e M F v n) e M F = _
      unfold chg
      rw [h2, bc_cnt (lo8_xor (lo8_sIn hM) (lo8_sIn hM)), mI_add]
def wkD (s : uS) (i : Nat) (kd a b : Int32) : Prop := s.1 16 i = kd ∧ ((kd = 43 ∨ kd = 45) ∨ (kd = 99 ∧ ∃ d, d ≤ 9 ∧ s.1 17 i = mI d ∧ a = mI d) ∨ (kd = 115 ∧ ∃ l, l < 8 ∧ s.1 17 i = mI l ∧ a = mI l) ∨ (kd = 103 ∧ ∃ l m, l < 8 ∧ m < 8 ∧ s.1 17 i = mI l ∧ a = mI l ∧ s.1 18 i = mI m ∧ b = mI m))
theorem act_ok {N M F B i r : Nat} {ρ : Rho} {s t : uS} {v e : Nat → Int32} {kd a b : Int32} (hi : i < 60) (hw : wkD s i kd a b) (hS : cS s 32 M F v e) (hV : mV t 1 v) (he : t.1 2 = e) (hM : t.1 0 2 = mI M) (hF : t.1 0 1 = mI F) (hM8 : M ≤ 8) (hF1 : 1 ≤ F) (hF16 : F ≤ 16) (hv : vok B M F v) (hr : s.2.2 0 13 = some r) (hR : cR N s r ρ) (hRm : mR N t ρ) (hN : 500 < N) : ∃ (g : Bool) (v' : Nat → Int32) (zc zm : Int32 × uS), f_X11_doAct N s (mI i) = some zc ∧ f_X12_act N t kd a b = some zm ∧ (if 0 ≤ zc.1 then (0 : Int32) else 1) = (if g then 0 else 1) ∧ zm.1 = (if g then 1 else 0) ∧ cS zc.2 32 M F v' e ∧ fr (fun a => (32 ≤ a ∧ a < 38) ∨ a = r + 3 ∨ a = r + 4) s zc.2 ∧ mV zm.2 1 v' ∧ mfr (fun c => c = 1 ∨ c = 8 ∨ c = 13) T0 t zm.2 ∧ vok (B + 9) M F v' := by
  obtain ⟨h16, hk⟩ := hw
  have v1 : (1 : Nat) = 1 ∨ (1 : Nat) = 10 ∨ (1 : Nat) = 11 ∨ (1 : Nat) = 12 := Or.inl rfl
  obtain ⟨t1, t2, t3, t4, t5, t6, t7, t8, t9, t10, t11⟩ := id hS
  obtain ⟨x1, x2, ⟨L, R, x3, x4, x5, x6⟩, x7, x8⟩ := id hv
  have hv9 := vok_le (B' := B + 9) hv (by omega)
  have e33 : t.1 1 33 = mI R := (hV 33 (by omega)).trans x6
  have e32 : t.1 1 32 = mI L := (hV 32 (by omega)).trans x5
  have e34 : t.1 1 34 = v 34 := hV 34 (by omega)
  have nm1 : ¬ (0 : Int32) ≤ -1 := by decide
  have nm2 : ¬ (0 : Int32) ≤ -2 := by decide
  have pos : ∀ n : Nat, n < 1000000 → (0 : Int32) ≤ mI n := fun n hn => lle 0 0 rfl (by omega) hn (by omega)
  unfold f_X11_doAct f_X12_act
  rw [if_neg (mI_n0 (by omega)), if_pos (rlt 60 60 rfl (by omega) (by omega) hi), cr_16 hi, o_bind, h16]
  have mvR : ∀ R2, L ≤ R2 → R2 < F → mV (u_pI t 1 33 (mI R2)) 1 (upV (upV v 32 (mI L)) 33 (mI R2)) ∧ cS (u_pI (u_pI s 32 6 (mI L)) 32 7 (mI R2)) 32 M F (upV (upV v 32 (mI L)) 33 (mI R2)) e ∧ vok (B + 9) M F (upV (upV v 32 (mI L)) 33 (mI R2)) := by
    intro R2 h1 h2
    refine ⟨fun q hq => ?_, ?_, ?_⟩
    · by_cases hq2 : q = 33
      · rw [hq2, p_II, upV_eq]
      · rw [p_Is hq2, upV_ne hq2]
        by_cases hq3 : q = 32
        · rw [hq3, upV_eq]; exact e32
        · rw [upV_ne hq3]; exact hV q hq
    · exact cS_up hM8 hF16 (cS_up (k := 32) hM8 hF16 hS (Or.inl ⟨rfl, Or.inl ⟨rfl, rfl⟩⟩)) (Or.inl ⟨rfl, Or.inr (Or.inl ⟨rfl, rfl⟩)⟩)
    · have : upV v 32 (mI L) = v := by rw [← x5]; exact upV_self
      rw [this]
      exact vok_right hv9 x5 h1 h2 hM8 hF16
  rcases hk with (rfl | rfl) | ⟨rfl, d, hd, g1, rfl⟩ | ⟨rfl, l, hl, g1, rfl⟩ | ⟨rfl, l, m, hl, hm, g1, rfl, g2, rfl⟩
  · -- one furrow more
    unfold f_X7_moveRope
    rw [if_pos rfl, if_pos rfl, t6, t7, x5, x6, mI_succ, c_isFurrow t5 hF16, c_isFurrow t5 hF16, smb_mI (by omega), smb_mI (by omega), decide_eq_true (show L < F by omega), vr33 v1, e33, o_bind, hF, mI_pred hF1 (by omega)]
    by_cases hRF : R + 1 < F
    · obtain ⟨y1, y2, y3⟩ := mvR (R + 1) (by omega) hRF
      refine ⟨true, upV (upV v 32 (mI L)) 33 (mI (R + 1)), (mI (R + 1) - mI L + 1, u_pI (u_pI s 32 6 (mI L)) 32 7 (mI (R + 1))), (1, u_pI t 1 33 (mI (R + 1))), ?_, ?_, ?_, rfl, y2, (fr.rfl.pI (Or.inl (by omega))).pI (Or.inl (by omega)), y1, mfr.rfl.pI (by omega) (Or.inl rfl), y3⟩
      · rw [decide_eq_true hRF]
        simp only [if_true, o_bind, i10, if_false, jn_eq]
        rw [if_pos (mle (by omega) (by omega) (by omega)), o_bind]
      · rw [o_bind, if_neg (by rw [mI_eq (by omega) (by omega)]; omega), o_bind, mI_succ, vw33 v1, o_bind]
      · rw [mI_sub (by omega) (by omega), mI_succ, if_pos (pos _ (by omega))]; rfl
    · refine ⟨false, v, (-1, s), (0, t), ?_, ?_, ?_, rfl, hS, fr.rfl, hV, mfr.rfl, hv9⟩
      · rw [decide_eq_false hRF]
        simp only [if_true, o_bind, i10, if_false, Bool.false_eq_true]
      · rw [o_bind, if_pos (by rw [show R = F - 1 by omega])]
      · rw [if_neg nm1]; rfl
  · -- one less
    unfold f_X7_moveRope
    rw [if_neg (show ¬ (45 : Int32) = 43 by decide), if_neg (show ¬ (45 : Int32) = 99 by decide), if_neg (show ¬ (45 : Int32) = 103 by decide), if_neg (show ¬ (45 : Int32) = 115 by decide), if_neg (show ¬ (45 : Int32) = 43 by decide), if_neg (show ¬ (45 : Int32) = 99 by decide), if_neg (show ¬ (45 : Int32) = 103 by decide), if_neg (show ¬ (45 : Int32) = 115 by decide), t6, t7, x5, x6, c_isFurrow t5 hF16, c_isFurrow t5 hF16, smb_mI (by omega), decide_eq_true (show L < F by omega), vr33 v1, e33, o_bind, vr32 v1, e32, o_bind]
    by_cases hLR : L < R
    · obtain ⟨y1, y2, y3⟩ := mvR (R - 1) (by omega) (by omega)
      refine ⟨true, upV (upV v 32 (mI L)) 33 (mI (R - 1)), (mI (R - 1) - mI L + 1, u_pI (u_pI s 32 6 (mI L)) 32 7 (mI (R - 1))), (1, u_pI t 1 33 (mI (R - 1))), ?_, ?_, ?_, rfl, y2, (fr.rfl.pI (Or.inl (by omega))).pI (Or.inl (by omega)), y1, mfr.rfl.pI (by omega) (Or.inl rfl), y3⟩
      · rw [mI_pred (by omega) (by omega), smb_mI (by omega), decide_eq_true (show R - 1 < F by omega)]
        simp only [if_true, o_bind, i10, if_false, jn_eq]
        rw [if_pos (mle (by omega) (by omega) (by omega)), o_bind]
      · rw [o_bind, o_bind, if_neg (by rw [mI_eq (by omega) (by omega)]; omega), o_bind, mI_pred (by omega) (by omega), vw33 v1, o_bind]
      · rw [mI_sub (by omega) (by omega), mI_succ, if_pos (pos _ (by omega))]; rfl
    · have hLR2 : L = R := by omega
      by_cases hR0 : R = 0
      · refine ⟨false, v, (-1, s), (0, t), ?_, ?_, ?_, rfl, hS, fr.rfl, hV, mfr.rfl, hv9⟩
        · have : smb (mI R - 1) F = false := by
            rw [hR0]
            unfold smb
            rw [mI_m1 (by omega)]
            exact decide_eq_false (by omega)
          rw [this]
          simp only [if_true, o_bind, i10, if_false, Bool.false_eq_true]
        · rw [o_bind, o_bind, if_pos (by rw [hLR2])]
        · rw [if_neg nm1]; rfl
      · refine ⟨false, v, (-2, s), (0, t), ?_, ?_, ?_, rfl, hS, fr.rfl, hV, mfr.rfl, hv9⟩
        · rw [mI_pred (by omega) (by omega), smb_mI (by omega), decide_eq_true (show R - 1 < F by omega)]
          simp only [if_true, o_bind, i10, if_false]
          rw [if_neg (mnle (by omega) (by omega) (by omega)), o_bind]
        · rw [o_bind, o_bind, if_pos (by rw [hLR2])]
        · rw [if_neg nm2]; rfl
  · -- crossings
    rw [if_neg (show ¬ (99 : Int32) = 43 by decide), if_pos rfl, if_neg (show ¬ (99 : Int32) = 43 by decide), if_pos rfl, cr_17 hi, o_bind, g1, hr, o_bind, o_ck (isR_of hR.1)]
    obtain ⟨z, hz0, hz1, hz2, hz3⟩ := c_cross (n := d) (by omega) (by omega) (by omega) hR hS hv hM8 hF16 (by omega) hN
    obtain ⟨w, hw0, hw1, hw2, hw3⟩ := m_goCrossings (n := d) v1 hM hF hM8 hF16 hV hv hRm (by omega) hN
    rw [he] at hw2
    obtain ⟨m, h1, h2⟩ := chgN_nn (ρ := ρ) (e := e) (v := v) (F := F) hM8 d
    refine ⟨true, crossN ρ e M F v d, (z.1, z.2), (1, w.2), ?_, ?_, ?_, rfl, hz2, hz3.mono (fun a ha => by omega), hw2, hw3, vok_le (vok_crossN hM8 hF16 hv d) (by omega)⟩
    · rw [hz0, o_bind]
    · rw [hw0, o_bind]
    · show (if 0 ≤ z.1 then _ else _) = _
      rw [hz1, h2, if_pos (pos _ (by omega))]; rfl
  · -- a sign
    unfold f_X7_showTo f_X12_refusesShow
    rw [if_neg (show ¬ (115 : Int32) = 43 by decide), if_neg (show ¬ (115 : Int32) = 99 by decide), if_neg (show ¬ (115 : Int32) = 103 by decide), if_pos rfl, if_neg (show ¬ (115 : Int32) = 43 by decide), if_neg (show ¬ (115 : Int32) = 99 by decide), if_neg (show ¬ (115 : Int32) = 103 by decide), if_pos rfl, cr_17 hi, o_bind, g1, c_isPerson t8 hM8, m_isMan hM hM8, smb_mI (by omega), o_bind, o_bind]
    by_cases hlM : l < M
    · rw [decide_eq_true hlM, t9, vr34 v1, e34]
      simp only [if_true, o_bind, i10, if_false, jn_eq, m_has (N := N) (σ := t) _ (show l < 32 by omega), bit_is (show l < 32 by omega)]
      cases hb : tb (v 34) l
      · have hl8 : lo8 (v 34 ||| (1 <<< (mI l &&& 31))) := lo8_or x7 (lo8_1 hl)
        refine ⟨true, upV v 34 (v 34 ||| (1 <<< (mI l &&& 31))), (v 34 ||| (1 <<< (mI l &&& 31)), u_pI s 32 9 (v 34 ||| (1 <<< (mI l &&& 31)))), (1, u_pI t 1 34 (v 34 ||| (1 <<< (mI l &&& 31)))), ?_, ?_, ?_, rfl, cS_up hM8 hF16 hS (Or.inl ⟨rfl, Or.inr (Or.inr (Or.inl ⟨rfl, rfl⟩))⟩), fr.rfl.pI (Or.inl (by omega)), fun q hq => ?_, mfr.rfl.pI (by omega) (Or.inl rfl), vok_sig hM8 hF16 hv9 hl8⟩
        · simp only [Bool.false_eq_true, if_false, o_bind, p_II]
        · simp only [Bool.false_eq_true, if_false, if_true, o_bind, Int32.le_refl]
          rw [vw34 v1, o_bind]
        · rw [if_pos (lo8_nonneg hl8).1]; rfl
        · by_cases hq2 : q = 34
          · rw [hq2, p_II, upV_eq]
          · rw [p_Is hq2, upV_ne hq2]; exact hV q hq
      · refine ⟨false, v, (-2, s), (0, t), ?_, ?_, ?_, rfl, hS, fr.rfl, hV, mfr.rfl, hv9⟩
        · simp only [if_true, o_bind]
        · simp only [if_true, i10, if_false, o_bind, nm2]
        · rw [if_neg nm2]; rfl
    · rw [decide_eq_false hlM]
      refine ⟨false, v, (-1, s), (0, t), ?_, ?_, ?_, rfl, hS, fr.rfl, hV, mfr.rfl, hv9⟩
      · simp only [Bool.false_eq_true, if_false, if_true, o_bind]
      · simp only [Bool.false_eq_true, if_false, if_true, o_bind, nm1]
      · rw [if_neg nm1]; rfl
  · -- a glance
    unfold f_X7_turnEyes f_X12_goGlance
    rw [if_neg (show ¬ (103 : Int32) = 43 by decide), if_neg (show ¬ (103 : Int32) = 99 by decide), if_pos rfl, if_neg (show ¬ (103 : Int32) = 43 by decide), if_neg (show ¬ (103 : Int32) = 99 by decide), if_pos rfl, cr_17 hi, o_bind, cr_18 hi, o_bind, g1, g2, c_isPerson t8 hM8, c_isPerson t8 hM8, m_areTwo hM hM8, smb_mI (by omega), smb_mI (by omega), o_bind, o_bind, o_bind]
    by_cases hlM : l < M
    · by_cases hmM : m < M
      · rw [decide_eq_true hlM, decide_eq_true hmM]
        by_cases hlm : l = m
        · refine ⟨false, v, (-1, s), (0, t), ?_, ?_, ?_, rfl, hS, fr.rfl, hV, mfr.rfl, hv9⟩
          · rw [hlm]
            simp only [if_true, i10, if_false, o_bind]
          · rw [hlm]
            simp only [ne_eq, not_true, and_false, if_false, if_true]
          · rw [if_neg nm1]; rfl
        · have hne : ¬ mI l = mI m := by rw [mI_eq (by omega) (by omega)]; exact hlm
          have x2' : s.1 (32 + 5) l = v (8 + l) := t2 l hlM
          have x3' : t.1 1 (8 + l) = v (8 + l) := hV (8 + l) (by omega)
          have hS4 : cS (u_pI s (32 + 5) l (v (8 + l) ^^^ (1 <<< (mI m &&& 31)))) 32 M F (upV v (8 + l) (v (8 + l) ^^^ (1 <<< (mI m &&& 31)))) e := cS_up hM8 hF16 hS (Or.inr (Or.inr (Or.inl ⟨rfl, hl, rfl⟩)))
          refine ⟨true, upV v (8 + l) (v (8 + l) ^^^ (1 <<< (mI m &&& 31))), (bc ((u_pI s (32 + 5) l (v (8 + l) ^^^ (1 <<< (mI m &&& 31)))).1 (32 + 5) l &&& sAll M), u_pI s (32 + 5) l (v (8 + l) ^^^ (1 <<< (mI m &&& 31)))), (1, u_pI t 1 (8 + l) (v (8 + l) ^^^ (1 <<< (mI m &&& 31)))), ?_, ?_, ?_, rfl, hS4, fr.rfl.pI (Or.inl (by omega)), fun q hq => ?_, mfr.rfl.pI (by omega) (Or.inl rfl), vok_dg hM8 hF16 hv9 (by omega) (Or.inr (by omega))⟩
          · simp only [if_true, i10, if_false, o_bind, hne]
            rw [sr_5 (by omega) (by omega) (by omega) hl, o_bind, sw_5 (by omega) (by omega) (by omega) hl, o_bind, x2', c_seenBy (by omega) (by omega) (by omega) hS4.2.2.2.2.2.2.2.1 hl, o_bind, bc_f, o_bind, o_bind]
          · simp only [hne, ne_eq, not_false_eq_true, and_self, if_true, i10, if_false]
            rw [mI_8, vr v1 (by omega), o_bind, x3', vw v1 (by omega), o_bind, o_bind]
          · show (if 0 ≤ bc _ then _ else _) = _
            rw [bc_all hM8, if_pos (pos _ (by have := cnt_le ((u_pI s (32 + 5) l (v (8 + l) ^^^ (1 <<< (mI m &&& 31)))).1 (32 + 5) l) M; omega))]; rfl
          · by_cases hq2 : q = 8 + l
            · rw [hq2, p_II, upV_eq]
            · rw [p_Is hq2, upV_ne hq2]; exact hV q hq
      · rw [decide_eq_true hlM, decide_eq_false hmM]
        refine ⟨false, v, (-1, s), (0, t), ?_, ?_, ?_, rfl, hS, fr.rfl, hV, mfr.rfl, hv9⟩
        · simp only [Bool.false_eq_true, if_false, if_true, i10, o_bind]
        · simp only [Bool.false_eq_true, false_and, and_false, if_false, if_true]
        · rw [if_neg nm1]; rfl
    · rw [decide_eq_false hlM]
      refine ⟨false, v, (-1, s), (0, t), ?_, ?_, ?_, rfl, hS, fr.rfl, hV, mfr.rfl, hv9⟩
      · simp only [Bool.false_eq_true, if_false, if_true, o_bind]
      · simp only [Bool.false_eq_true, false_and, if_false, if_true]
      · rw [if_neg nm1]; rfl
