/-! PURE LAYER: law -/
theorem up340 {v : Nat → Int32} : upV v 34 (v 34 ||| 0) = v := by rw [or0]; exact upV_self
theorem m_inBy {N M F B : Nat} {ρ : Rho} {t : uS} (hM : t.1 0 2 = mI M) (hF : t.1 0 1 = mI F) (hM8 : M ≤ 8) (hF16 : F ≤ 16) (hv : vok B M F (t.1 1)) (hR : mR N t ρ) (hN : 500 < N) : ok (f_X12_inBy10 N t) (fun w => w.1 = bc (sIn (turnN ρ (t.1 2) M (t.1 1) 10) (t.1 2) M) ∧ mfr (fun c => c = 11 ∨ c = 8 ∨ c = 13) T0 t w.2) := by
  have h := m_leftBy (N := N) (p2 := 0) (n := 10) (B := B) hM hF hM8 hF16 (by rw [up340]; exact hv) hR (by omega) hN
  rw [up340] at h
  unfold f_X12_inBy10
  rw [ok_bind]
  exact ok_mono h (fun w hw => by rw [ok_some]; exact hw)
theorem c_inBy {N M F r : Nat} {ρ : Rho} {s : uS} {v e : Nat → Int32} (hS : cS s 32 M F v e) (hR : cR N s r ρ) (hM8 : M ≤ 8) (hF16 : F ≤ 16) (hN : 500 < N) : ok (f_X7_believeFrom N s 38 32 0 r 10 0) (fun s2 => f_X7_howManyIn N s2 38 = some (bc (sIn (turnN ρ e M v 10) e M)) ∧ fr (fun a => (38 ≤ a ∧ a < 44) ∨ a = r + 3 ∨ a = r + 4) s s2) := by
  have h := c_believe (n := 10) (p2 := 0) (p5 := 0) hS hR hM8 hF16 (by omega) hN
  refine ok_mono h (fun s2 hs2 => ?_)
  obtain ⟨w, h1, h2, h3, -⟩ := hs2
  refine ⟨?_, h2⟩
  rw [c_howManyIn (by omega) (by omega) (by omega) h1.2.2.2.2.2.2.2.1 hM8 hN, sIn_cS h1, h3 rfl, up340]
theorem RelC.text1 {N j M F : Nat} {ρ : Rho} {σc σm s t : uS} {S : Nat → Prop} (h : RelC N j M F ρ σc σm) (hS : ∀ a, S a → (9 ≤ a ∧ a < 19) ∨ (22 ≤ a ∧ a < 32) ∨ (38 ≤ a ∧ a < 44)) (hr : ∀ r, σc.2.2 0 13 = some r → ¬ S r ∧ ¬ S (r + 1)) (hc : cX S σc s) (m1 : ∀ c, c = 1 ∨ c = 2 ∨ c = 9 ∨ c = 16 ∨ c = 18 ∨ c = 19 ∨ c = 20 → t.1 c = σm.1 c) (m2 : ∀ s, s = 1 ∨ s = 2 ∨ s = 17 ∨ s = 21 ∨ s = 29 ∨ s = 30 ∨ s = 33 → t.1 0 s = σm.1 0 s) (m3 : ∀ q, σm.2.2 0 15 = some q → t.1 q = σm.1 q) (m4 : t.1 0 5 = 0) (m6 : ∀ s, s = 15 ∨ s = 16 → t.2.2 0 s = σm.2.2 0 s) : RelC N (j + 1) M F ρ s t := by
  obtain ⟨a1, a2, a3, a4, a5, a6⟩ := h
  obtain ⟨c1, c2, c3⟩ := hc
  have hrr := a6.r
  have c1' : ∀ a, a ≠ 1 → a < 9 ∨ (19 ≤ a ∧ a < 22) ∨ (32 ≤ a ∧ a < 38) ∨ 44 ≤ a → s.1 a = σc.1 a := fun a h1 h2 => c1 a h1 (fun hs => by have := hS a hs; omega)
  exact ⟨a1.to (by omega) (fun a x y => c1' a (by omega) (by omega)) (m1 1 (by omega)) (m1 2 (by omega)) (m2 1 (by omega)) (m2 2 (by omega)), ⟨0, by omega, c2, m4, fun k hk => absurd hk (by omega)⟩, a3.to (c1' 8 (by omega) (by omega)) (m1 16 (by omega)) (m2 29 (by omega)) (m2 30 (by omega)), a4.to (by omega) (fun a x y => c1' a (by omega) (by omega)) (by rw [c1' 5 (by omega) (by omega)]) (by rw [c3]) (m1 9 (by omega)) (m1 2 (by omega)) (m2 21 (by omega)), a5.to (by omega) (by omega) (fun a x y => c1' a (by omega) (by omega)) (by rw [c1' 5 (by omega) (by omega)]) (by rw [c3]) (m1 18 (by omega)) (m1 2 (by omega)) (m1 19 (by omega)) (m1 20 (by omega)) (m2 33 (by omega)), a6.to (fun r h => ⟨c1 r (by have := hrr r h; omega) (hr r h).1, c1 (r + 1) (by have := hrr r h; omega) (hr r h).2⟩) (by rw [c3]) m3 (m6 15 (by omega)) (m6 16 (by omega)) (m2 17 (by omega))⟩
theorem n_s42_ok (N j : Nat) (hN : 500 < N) : n_s42 N (Rel N j) (Rel N (j + 1)) := by
  intro σc σm h
  have h := h.thr
  refine two ?_
  unfold f_X12_law f_X11_law
  simp only [jn_eq]
  generalize u_pI σm 0 8 0 = s1 at h ⊢
  obtain ⟨M, F, ρ, hC, hTo⟩ := h
  have hqq := hC.2.2.2.2.2.q
  obtain ⟨r', T, zc, zm, z1, z2, z3, z4, z5, z6, z7, z8, z9, z10⟩ := rdRule hC hN
  obtain ⟨r, r2', q, q', a1, a2, a3, a4, a5, a6, a7, a8, a9, a10, a11⟩ := id hC.2.2.2.2.2
  obtain ⟨b1, b2, b3, b4, b5, b6, b7⟩ := id hC.1
  rw [z1] at a2
  cases a2
  have hr := a5.1
  have hRS : ∀ r0, σc.2.2 0 13 = some r0 → ¬ RS3 r' r0 ∧ ¬ RS3 r' (r0 + 1) := fun r0 h0 => by rw [a1] at h0; cases h0; unfold RS3; omega
  have hS9 : ∀ a, RS3 r' a → (9 ≤ a ∧ a < 19) ∨ (22 ≤ a ∧ a < 32) := fun a ha => by unfold RS3 at ha; omega
  rw [z6, z7, o_bind, o_bind, z3]
  rcases z10 with ⟨e1, e2, e3, ρ', e4, e5⟩ | ⟨e, e1, e2, e3, e4⟩
  · have hz2 : zc.2.2 = σc.2 := z8.2.2
    have zc1 : ∀ a, a ≠ 1 → ¬ RS3 r' a → zc.2.1 a = σc.1 a := z8.1
    rw [e1, if_pos (by decide), e2, if_neg n10, hz2, z1, o_bind, o_ck (isR_of z2), ok_bind]
    -- the class: by the new rule
    have h32 : cS zc.2 32 M F (s1.1 1) (s1.1 2) := cS_eq b6 (fun a x y => zc1 a (by omega) (by unfold RS3; omega))
    refine ok_mono (c_inBy h32 e4 b1 b3 hN) (fun s3 hs3 => ?_)
    obtain ⟨p1, p2⟩ := hs3
    have hs32 : s3.2 = σc.2 := p2.2.trans hz2
    rw [p1, o_bind, hs32, a1, o_bind, o_ck (isR_of hr), ok_bind]
    -- and by the old one
    have s3c : ∀ a, a ≠ 1 → ¬ RS3 r' a → ¬ ((38 ≤ a ∧ a < 44) ∨ a = r' + 3 ∨ a = r' + 4) → s3.1 a = σc.1 a := fun a h1 h2 h3 => (p2.1 a h3).trans (zc1 a h1 h2)
    have h32' : cS s3 32 M F (s1.1 1) (s1.1 2) := cS_eq b6 (fun a x y => s3c a (by omega) (by unfold RS3; omega) (by omega))
    have hR3 : cR N s3 r ρ := by
      unfold cR
      rw [s3c r (by omega) (by unfold RS3; omega) (by omega), s3c (r + 1) (by omega) (by unfold RS3; omega) (by omega)]
      exact a5
    refine ok_mono (c_inBy h32' hR3 b1 b3 hN) (fun s6 hs6 => ?_)
    obtain ⟨p3, p4⟩ := hs6
    rw [p3, o_bind, c_two, o_bind, ok_some]
    have hcX : cX (fun a => RS3 r' a ∨ (38 ≤ a ∧ a < 44) ∨ a = r' + 3 ∨ a = r' + 4 ∨ a = r + 3 ∨ a = r + 4) σc s6 := by
      refine ⟨fun a h1 h2 => ?_, ?_, p4.2.trans hs32⟩
      · rw [p4.1 a (fun h => h2 (by omega))]
        exact s3c a h1 (fun h => h2 (Or.inl h)) (fun h => h2 (by omega))
      · rw [p4.1 1 (by omega), p2.1 1 (by omega)]; exact z8.2.1
    -- the reference: by the old rule
    have z15 : zm.2.2.2 0 15 = some q := by rw [z9.2.2.2.2.2 15 (by omega)]; exact a9
    have z16 : zm.2.2.2 0 16 = some q' := by rw [z9.2.2.2.2.2 16 (by omega)]; exact a10
    have zz : ∀ c, c = 1 ∨ c = 2 ∨ c = 3 ∨ c = 9 ∨ c = 16 ∨ c = 18 ∨ c = 19 ∨ c = 20 → zm.2.1 c = s1.1 c := z9.1
    have z17 : zm.2.1 0 17 = s1.1 0 17 := z9.2.1 17 (by omega)
    have zq : zm.2.1 q = s1.1 q := z9.2.2.1 q a6
    have hb := m_inBy (N := N) (t := zm.2) (ρ := ρ) (M := M) (F := F) (B := 600 * j) (by rw [z9.2.1 2 (by omega)]; exact b5) (by rw [z9.2.1 1 (by omega)]; exact b4) b1 b3 (by rw [zz 1 (by omega)]; exact b7) ⟨q, a6, z15, by rw [zq, z17]; exact a11⟩ hN
    rw [zz 1 (by omega), zz 2 (by omega)] at hb
    rw [ok_bind]
    refine ok_mono hb (fun w1 hw1 => ?_)
    obtain ⟨x1, x2⟩ := hw1
    have w15 : w1.2.2.2 0 15 = some q := by rw [x2.2.2.2 0 15 (by omega)]; exact z15
    have w16 : w1.2.2.2 0 16 = some q' := by rw [x2.2.2.2 0 16 (by omega)]; exact z16
    have w17 : w1.2.1 0 17 = s1.1 0 17 := by rw [x2.2.1 17 (by unfold T0; omega)]; exact z17
    have wc : ∀ c, c ≠ 0 → ¬ (c = 11 ∨ c = 8 ∨ c = 13) → w1.2.1 c = zm.2.1 c := fun c h0 h => x2.1 c h0 h
    have wS : ∀ k, ¬ T0 k → w1.2.1 0 k = zm.2.1 0 k := fun k h => x2.2.1 k h
    rw [w15, o_bind, w16, o_bind]
    generalize hp : u_pI (u_pR w1.2 0 15 (some q')) 0 17 (mI T) = p
    have pc : ∀ c, c ≠ 0 → p.1 c = w1.2.1 c := fun c h0 => by rw [← hp, p_Ia h0]; rfl
    have pS : ∀ k, k ≠ 17 → p.1 0 k = w1.2.1 0 k := fun k hk => by rw [← hp, p_Is hk]; rfl
    have p17 : p.1 0 17 = mI T := by rw [← hp, p_II]
    have p15 : p.2.2 0 15 = some q' := by rw [← hp]; exact p_RR _ _ _ _
    have pR : ∀ k, k ≠ 15 → p.2.2 0 k = w1.2.2.2 0 k := fun k hk => by rw [← hp]; exact p_Rn (Or.inr hk)
    have p3b : p.1 3 = s1.1 3 := by rw [pc 3 (by omega), wc 3 (by omega) (by omega)]; exact zz 3 (by omega)
    refine (m_copy (N := N) (T := T) a7 p15 e3 (by rw [p3b]; exact z5) hN (fun t t1 t2 t3 => ?_)).2
    -- by the new one
    have tc : ∀ c, c ≠ 0 → c ≠ q' → ¬ (c = 11 ∨ c = 8 ∨ c = 13) → t.1 c = zm.2.1 c := fun c h0 h1 h2 => by rw [t2 c h1, pc c h0, wc c h0 h2]
    have tS : ∀ k, k ≠ 17 → ¬ T0 k → t.1 0 k = zm.2.1 0 k := fun k h1 h2 => by rw [t2 0 (by omega), pS k h1, wS k h2]
    have hb2 := m_inBy (N := N) (t := t) (ρ := ρ') (M := M) (F := F) (B := 600 * j) (by rw [tS 2 (by omega) (by unfold T0; omega), z9.2.1 2 (by omega)]; exact b5) (by rw [tS 1 (by omega) (by unfold T0; omega), z9.2.1 1 (by omega)]; exact b4) b1 b3 (by rw [tc 1 (by omega) (by omega) (by omega), zz 1 (by omega)]; exact b7) ⟨q', a7, by rw [t3]; exact p15, by rw [t2 0 (by omega), p17]; exact e5 q' _ a7 (fun k hk => by rw [t1 k hk, p3b])⟩ hN
    rw [tc 1 (by omega) (by omega) (by omega), tc 2 (by omega) (by omega) (by omega), zz 1 (by omega), zz 2 (by omega)] at hb2
    rw [ok_bind]
    refine ok_mono hb2 (fun w2 hw2 => ?_)
    obtain ⟨y1, y2⟩ := hw2
    rw [m_tell0, o_bind, m_tell1, o_bind, ok_some, y1, x1]
    refine ⟨rfl, M, F, ρ, RelC.told2 ?_ _ _, rTold_2 _ _⟩
    generalize hf : u_pI (u_pR w2.2 0 15 (some q)) 0 17 (w1.2.1 0 17) = f
    have fc : ∀ c, c ≠ 0 → f.1 c = w2.2.1 c := fun c h0 => by rw [← hf, p_Ia h0]; rfl
    have fS : ∀ k, k ≠ 17 → f.1 0 k = w2.2.1 0 k := fun k hk => by rw [← hf, p_Is hk]; rfl
    refine hC.text1 (fun a ha => ?_) (fun r0 h0 => ?_) hcX (fun c hc => ?_) (fun k hk => ?_) (fun q0 h0 => ?_) ?_ (fun k hk => ?_)
    · rcases ha with ha | ha
      · have := hS9 a ha; omega
      · omega
    · rw [a1] at h0; cases h0; unfold RS3; omega
    · rw [fc c (by omega), y2.1 c (by omega) (by omega), tc c (by omega) (by omega) (by omega)]; exact zz c (by omega)
    · by_cases h17 : k = 17
      · rw [h17, ← hf, p_II]; exact w17
      · rw [fS k h17, y2.2.1 k (by unfold T0; omega), tS k h17 (by unfold T0; omega)]; exact z9.2.1 k (by omega)
    · rw [a9] at h0
      cases h0
      rw [fc q (by omega), y2.1 q (by omega) (by omega), tc q (by omega) a8 (by omega)]; exact zq
    · rw [fS 5 (by omega), y2.2.1 5 (by unfold T0; omega), tS 5 (by omega) (by unfold T0; omega)]; exact z9.2.2.2.1
    · rcases hk with rfl | rfl
      · rw [← hf, a9]; exact p_RR _ _ _ _
      · have : f.2.2 0 16 = w2.2.2.2 0 16 := by rw [← hf]; exact p_Rn (Or.inr (by omega))
        rw [this, y2.2.2.2 0 16 (by omega), t3, pR 16 (by omega), w16, a10]
  · rw [e2, if_neg (mI_n0 (by omega)), ok_some, e3, if_pos rfl, ok_some, e4]
    exact ⟨rfl, rel_text0 hC hTo hS9 hRS z8 z9⟩
