/-! PURE LAYER: how the class's object and the reference's lie beside each other -/
def rNow (B M F : Nat) (σc σm : uS) : Prop := M ≤ 8 ∧ 1 ≤ F ∧ F ≤ 16 ∧ σm.1 0 1 = mI F ∧ σm.1 0 2 = mI M ∧ cS σc 32 M F (σm.1 1) (σm.1 2) ∧ vok B M F (σm.1 1)
def rText (σc σm : uS) : Prop := ∃ T, T ≤ 80 ∧ σc.1 1 1 = mI T ∧ σm.1 0 5 = mI T ∧ ∀ k, k < T → σc.1 2 k = σm.1 3 k &&& 255 ∧ u_nar 2 (σm.1 3 k) = σm.1 3 k
def rTold (σc σm : uS) : Prop := ∃ K, K ≤ 16 ∧ σc.1 3 1 = mI K ∧ σm.1 0 7 = mI K ∧ ∀ k, k < K → σc.2.1 4 k = σm.2.1 4 k
def sSt (dug : Nat → Int32) (bits : Int32) (b : Bool) : Nat → Int32
  | 0 => 0
  | k + 1 => sSt dug bits b k ||| (if tb bits k = b then 1 <<< (dug k &&& 31) else 0)
def rDig (F : Nat) (σc σm : uS) : Prop := ∃ D, D ≤ 12 ∧ σc.1 8 0 = mI D ∧ σm.1 0 30 = mI D ∧ (∀ k, k < D → ∃ x, x < F ∧ σm.1 16 k = mI x) ∧ σc.1 8 1 = sSt (σm.1 16) (σm.1 0 29) true D ∧ σc.1 8 2 = sSt (σm.1 16) (σm.1 0 29) false D
def rPast (B M F : Nat) (σc σm : uS) : Prop := ∃ (U : Nat) (st : Nat → Nat), U ≤ 12 ∧ σc.1 5 2 = mI U ∧ σm.1 0 21 = mI U ∧ (∀ u, u < 12 → σc.2.2 6 u = some (st u) ∧ 50 ≤ st u ∧ st u < 122 ∧ (st u - 32) % 6 = 0) ∧ (∀ u w, u < 12 → w < 12 → st u = st w → u = w) ∧ ∀ u, u < U → cS σc (st u) M F (fun j => σm.1 9 (37 * u + j)) (σm.1 2) ∧ vok B M F (fun j => σm.1 9 (37 * u + j))
def rKept (B C0 M F : Nat) (σc σm : uS) : Prop := ∃ C, C ≤ C0 ∧ σm.1 0 33 = mI C ∧ ∀ i, i < 2 → σc.2.2 7 i = some (122 + 6 * i) ∧ (∃ kc, kc ≤ C ∧ σm.1 20 i = mI kc) ∧ (tb (σc.1 5 3) i = true ↔ (σm.1 19 i ≠ 0 ∧ σm.1 20 i = mI C)) ∧ (tb (σc.1 5 3) i = true → cS σc (122 + 6 * i) M F (fun j => σm.1 18 (37 * i + j)) (σm.1 2) ∧ vok B M F (fun j => σm.1 18 (37 * i + j)))
def rRule (N : Nat) (ρ : Rho) (σc σm : uS) : Prop := ∃ r r' q q', σc.2.2 0 13 = some r ∧ σc.2.2 0 14 = some r' ∧ (r' = 22 ∨ r' = 27) ∧ r ≠ r' ∧ cR N σc r ρ ∧ (q = 6 ∨ q = 7) ∧ (q' = 6 ∨ q' = 7) ∧ q ≠ q' ∧ σm.2.2 0 15 = some q ∧ σm.2.2 0 16 = some q' ∧ RuleM N q (σm.1 q) (σm.1 0 17) ρ
/-- all but what was told -/
def RelC (N j : Nat) (M F : Nat) (ρ : Rho) (σc σm : uS) : Prop := rNow (600 * j) M F σc σm ∧ rText σc σm ∧ rDig F σc σm ∧ rPast (600 * j) M F σc σm ∧ rKept (600 * j) j M F σc σm ∧ rRule N ρ σc σm
def Rel (N j : Nat) (σc σm : uS) : Prop := ∃ (M F : Nat) (ρ : Rho), RelC N j M F ρ σc σm ∧ rTold σc σm
section RT
variable {N B B' M F C0 C0' : Nat} {ρ : Rho} {σc σm σc' σm' : uS}
theorem cS_eq {σ σ' : uS} {i M F : Nat} {v e : Nat → Int32} (h : cS σ i M F v e) (hc : ∀ a, i ≤ a → a < i + 6 → σ'.1 a = σ.1 a) : cS σ' i M F v e := h.to (hc _ (by omega) (by omega)) (hc _ (by omega) (by omega)) (hc _ (by omega) (by omega)) (hc _ (by omega) (by omega)) (hc _ (by omega) (by omega))
theorem rNow.to (h : rNow B M F σc σm) (hb : B ≤ B') (hc : ∀ a, 32 ≤ a → a < 38 → σc'.1 a = σc.1 a) (h1 : σm'.1 1 = σm.1 1) (h2 : σm'.1 2 = σm.1 2) (s1 : σm'.1 0 1 = σm.1 0 1) (s2 : σm'.1 0 2 = σm.1 0 2) : rNow B' M F σc' σm' := by
  obtain ⟨a1, a2, a3, a4, a5, a6, a7⟩ := h
  exact ⟨a1, a2, a3, by rw [s1]; exact a4, by rw [s2]; exact a5, by rw [h1, h2]; exact cS_eq a6 hc, by rw [h1]; exact vok_le a7 hb⟩
theorem rText.to (h : rText σc σm) (h1 : σc'.1 1 1 = σc.1 1 1) (h2 : σc'.1 2 = σc.1 2) (h3 : σm'.1 3 = σm.1 3) (h5 : σm'.1 0 5 = σm.1 0 5) : rText σc' σm' := by
  obtain ⟨T, a1, a2, a3, a4⟩ := h
  exact ⟨T, a1, by rw [h1]; exact a2, by rw [h5]; exact a3, by rw [h2, h3]; exact a4⟩
theorem rTold.to (h : rTold σc σm) (h1 : σc'.1 3 1 = σc.1 3 1) (h2 : σc'.2.1 4 = σc.2.1 4) (h3 : σm'.2.1 4 = σm.2.1 4) (h5 : σm'.1 0 7 = σm.1 0 7) : rTold σc' σm' := by
  obtain ⟨T, a1, a2, a3, a4⟩ := h
  exact ⟨T, a1, by rw [h1]; exact a2, by rw [h5]; exact a3, by rw [h2, h3]; exact a4⟩
theorem rDig.to (h : rDig F σc σm) (h1 : σc'.1 8 = σc.1 8) (h2 : σm'.1 16 = σm.1 16) (h3 : σm'.1 0 29 = σm.1 0 29) (h4 : σm'.1 0 30 = σm.1 0 30) : rDig F σc' σm' := by
  unfold rDig
  rw [h1, h2, h3, h4]
  exact h
theorem rPast.to (h : rPast B M F σc σm) (hb : B ≤ B') (hc : ∀ a, 50 ≤ a → a < 122 → σc'.1 a = σc.1 a) (h1 : σc'.1 5 2 = σc.1 5 2) (h2 : σc'.2.2 6 = σc.2.2 6) (h3 : σm'.1 9 = σm.1 9) (h4 : σm'.1 2 = σm.1 2) (h5 : σm'.1 0 21 = σm.1 0 21) : rPast B' M F σc' σm' := by
  obtain ⟨U, st, a1, a2, a3, a4, a5, a6⟩ := h
  refine ⟨U, st, a1, by rw [h1]; exact a2, by rw [h5]; exact a3, by rw [h2]; exact a4, a5, fun u hu => ?_⟩
  rw [h3, h4]
  obtain ⟨b1, b2, b3, b4⟩ := a4 u (by omega)
  exact ⟨cS_eq (a6 u hu).1 (fun a x y => hc a (by omega) (by omega)), vok_le (a6 u hu).2 hb⟩
theorem rKept.to (h : rKept B C0 M F σc σm) (hb : B ≤ B') (hC : C0 ≤ C0') (hc : ∀ a, 122 ≤ a → a < 134 → σc'.1 a = σc.1 a) (h1 : σc'.1 5 3 = σc.1 5 3) (h2 : σc'.2.2 7 = σc.2.2 7) (h3 : σm'.1 18 = σm.1 18) (h4 : σm'.1 2 = σm.1 2) (h5 : σm'.1 19 = σm.1 19) (h6 : σm'.1 20 = σm.1 20) (h7 : σm'.1 0 33 = σm.1 0 33) : rKept B' C0' M F σc' σm' := by
  obtain ⟨C, a1, a2, a3⟩ := h
  refine ⟨C, by omega, by rw [h7]; exact a2, fun i hi => ?_⟩
  obtain ⟨b1, b2, b3, b4⟩ := a3 i hi
  rw [h1, h2, h3, h4, h5, h6]
  exact ⟨b1, b2, b3, fun ht => ⟨cS_eq (b4 ht).1 (fun a x y => hc a (by omega) (by omega)), vok_le (b4 ht).2 hb⟩⟩
theorem rRule.to (h : rRule N ρ σc σm) (hc : ∀ r, σc.2.2 0 13 = some r → σc'.1 r = σc.1 r ∧ σc'.1 (r + 1) = σc.1 (r + 1)) (h2 : σc'.2.2 0 = σc.2.2 0) (hm : ∀ q, σm.2.2 0 15 = some q → σm'.1 q = σm.1 q) (h15 : σm'.2.2 0 15 = σm.2.2 0 15) (h16 : σm'.2.2 0 16 = σm.2.2 0 16) (h17 : σm'.1 0 17 = σm.1 0 17) : rRule N ρ σc' σm' := by
  obtain ⟨r, r', q, q', a1, a2, a3, a4, a5, a6, a7, a8, a9, a10, a11⟩ := h
  obtain ⟨c1, c2⟩ := hc r a1
  refine ⟨r, r', q, q', by rw [h2]; exact a1, by rw [h2]; exact a2, a3, a4, ?_, a6, a7, a8, by rw [h15]; exact a9, by rw [h16]; exact a10, by rw [hm q a9, h17]; exact a11⟩
  unfold cR
  rw [c1, c2]
  exact a5
theorem rRule.mR (h : rRule N ρ σc σm) : mR N σm ρ := by
  obtain ⟨r, r', q, q', a1, a2, a3, a4, a5, a6, a7, a8, a9, a10, a11⟩ := h
  exact ⟨q, a6, a9, a11⟩
end RT
/-- what a call that changes nothing but scratch rows leaves -/
def coreC (a : Nat) : Prop := a = 1 ∨ a = 2 ∨ a = 5 ∨ a = 8 ∨ (32 ≤ a ∧ a < 38) ∨ (50 ≤ a ∧ a < 134)
def cK (σ σ' : uS) : Prop := (∀ a, coreC a → σ'.1 a = σ.1 a) ∧ (∀ r, σ.2.2 0 13 = some r → σ'.1 r = σ.1 r ∧ σ'.1 (r + 1) = σ.1 (r + 1)) ∧ σ'.2.2 = σ.2.2
def mK (σ σ' : uS) : Prop := (∀ c, c = 1 ∨ c = 2 ∨ c = 3 ∨ c = 9 ∨ c = 16 ∨ c = 18 ∨ c = 19 ∨ c = 20 → σ'.1 c = σ.1 c) ∧ (∀ s, s = 1 ∨ s = 2 ∨ s = 5 ∨ s = 17 ∨ s = 21 ∨ s = 29 ∨ s = 30 ∨ s = 33 → σ'.1 0 s = σ.1 0 s) ∧ (∀ q, σ.2.2 0 15 = some q → σ'.1 q = σ.1 q) ∧ ∀ s, s ≠ 9 → σ'.2.2 0 s = σ.2.2 0 s
theorem RelC.to {N j M F : Nat} {ρ : Rho} {σc σm σc' σm' : uS} (h : RelC N j M F ρ σc σm) (hc : cK σc σc') (hm : mK σm σm') : RelC N (j + 1) M F ρ σc' σm' := by
  obtain ⟨a1, a2, a3, a4, a5, a6⟩ := h
  obtain ⟨c1, c2, c3⟩ := hc
  obtain ⟨m1, m2, m3, m4⟩ := hm
  refine ⟨a1.to (by omega) (fun a x y => c1 a (by unfold coreC; omega)) (m1 1 (by omega)) (m1 2 (by omega)) (m2 1 (by omega)) (m2 2 (by omega)), a2.to (by rw [c1 1 (by unfold coreC; omega)]) (c1 2 (by unfold coreC; omega)) (m1 3 (by omega)) (m2 5 (by omega)), a3.to (c1 8 (by unfold coreC; omega)) (m1 16 (by omega)) (m2 29 (by omega)) (m2 30 (by omega)), a4.to (by omega) (fun a x y => c1 a (by unfold coreC; omega)) (by rw [c1 5 (by unfold coreC; omega)]) (by rw [c3]) (m1 9 (by omega)) (m1 2 (by omega)) (m2 21 (by omega)), a5.to (by omega) (by omega) (fun a x y => c1 a (by unfold coreC; omega)) (by rw [c1 5 (by unfold coreC; omega)]) (by rw [c3]) (m1 18 (by omega)) (m1 2 (by omega)) (m1 19 (by omega)) (m1 20 (by omega)) (m2 33 (by omega)), a6.to c2 (by rw [c3]) m3 (m4 15 (by omega)) (m4 16 (by omega)) (m2 17 (by omega))⟩
theorem cK.rfl {σ : uS} : cK σ σ := ⟨fun _ _ => Eq.refl _, fun _ _ => ⟨Eq.refl _, Eq.refl _⟩, Eq.refl _⟩
theorem mK.rfl {σ : uS} : mK σ σ := ⟨fun _ _ => Eq.refl _, fun _ _ => Eq.refl _, fun _ _ => Eq.refl _, fun _ _ => Eq.refl _⟩
theorem cK.trans {σ σ' σ'' : uS} (h1 : cK σ σ') (h2 : cK σ' σ'') : cK σ σ'' := ⟨fun a h => (h2.1 a h).trans (h1.1 a h), fun r hr => ⟨((h2.2.1 r (by rw [h1.2.2]; exact hr)).1).trans (h1.2.1 r hr).1, ((h2.2.1 r (by rw [h1.2.2]; exact hr)).2).trans (h1.2.1 r hr).2⟩, h2.2.2.trans h1.2.2⟩
theorem mK.trans {σ σ' σ'' : uS} (h1 : mK σ σ') (h2 : mK σ' σ'') : mK σ σ'' := ⟨fun a h => (h2.1 a h).trans (h1.1 a h), fun s h => (h2.2.1 s h).trans (h1.2.1 s h), fun q hq => (h2.2.2.1 q (by rw [h1.2.2.2 15 (by omega)]; exact hq)).trans (h1.2.2.1 q hq), fun s h => (h2.2.2.2 s h).trans (h1.2.2.2 s h)⟩
theorem Rel.mono {N j : Nat} {σc σm : uS} (h : Rel N j σc σm) : Rel N (j + 1) σc σm := by
  obtain ⟨M, F, ρ, h1, h2⟩ := h
  exact ⟨M, F, ρ, h1.to cK.rfl mK.rfl, h2⟩
/-- both come to something -/
theorem two {α β : Type} {x : Option α} {y : Option β} {P : α → β → Prop} (h : ok x (fun a => ok y (fun b => P a b))) : ∃ a b, x = some a ∧ y = some b ∧ P a b := by
  obtain ⟨a, h1, b, h2, h3⟩ := h
  exact ⟨a, b, h1, h2, h3⟩
