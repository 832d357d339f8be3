/-! PURE LAYER: the start -/
theorem rel0 : Rel 501 0 σC0 σM0 := by
  have c32 : ∀ i, i = 32 → cS σC0 i 0 1 (σM0.1 1) (σM0.1 2) := by
    rintro i rfl
    refine ⟨fun p hp => absurd hp (by omega), fun p hp => absurd hp (by omega), fun p hp => absurd hp (by omega), fun f hf => ?_, rfl, rfl, rfl, rfl, rfl, rfl, rfl⟩
    rw [show f = 0 by omega]; rfl
  refine ⟨0, 1, none, ⟨⟨by omega, by omega, by omega, rfl, rfl, c32 32 rfl, fun p hp => absurd hp (by omega), fun f hf => ?_, ⟨0, 0, by omega, by omega, rfl, rfl⟩, lo8_0, ⟨0, by omega, rfl⟩⟩, ⟨0, by omega, rfl, rfl, fun k hk => absurd hk (by omega)⟩, ⟨0, by omega, rfl, rfl, fun k hk => absurd hk (by omega), rfl, rfl⟩, ⟨0, fun u => 50 + 6 * u, by omega, rfl, rfl, fun u hu => ⟨?_, (show 50 ≤ 50 + 6 * u by omega), (show 50 + 6 * u < 122 by omega), (show (50 + 6 * u - 32) % 6 = 0 by omega)⟩, fun u w _ _ h => (by have h : 50 + 6 * u = 50 + 6 * w := h; omega), fun u hu => absurd hu (by omega)⟩, ⟨0, by omega, rfl, fun i hi => ⟨?_, ⟨0, by omega, rfl⟩, ?_, fun h => ?_⟩⟩, ⟨22, 27, 6, 7, rfl, rfl, Or.inr rfl, by omega, ⟨Or.inl rfl, rfl, fun _ g hg => (by cases hg)⟩, Or.inl rfl, Or.inr rfl, by omega, rfl, rfl, rfl⟩⟩, ⟨0, by omega, rfl, rfl, fun k hk => absurd hk (by omega)⟩⟩
  · exact ⟨0, by omega, rfl⟩
  · show (if u < 12 then some (50 + 6 * u) else none) = _
    rw [if_pos hu]
  · show (if i < 2 then some (122 + 6 * i) else none) = _
    rw [if_pos hi]
  · have e : tb (σC0.1 5 3) i = false := tb_0 _
    rw [e]
    exact ⟨fun h => (by cases h), fun h => absurd rfl h.1⟩
  · have e : tb (σC0.1 5 3) i = false := tb_0 _
    rw [e] at h
    cases h
theorem relSt : n_St 501 (Rel 501) := fun j hj => ⟨fun _ _ h => h.mono, n_s0_ok 501 j (by omega), n_s1_ok 501 j (by omega), n_s2_ok 501 j (by omega) (by omega), n_s3_ok 501 j (by omega) (by omega), n_s4_ok 501 j (by omega), n_s5_ok 501 j (by omega), n_s6_ok 501 j (by omega), n_s7_ok 501 j (by omega), n_s8_ok 501 j (by omega), n_s9_ok 501 j (by omega), n_s10_ok 501 j (by omega), n_s11_ok 501 j (by omega), n_s12_ok 501 j (by omega), n_s13_ok 501 j (by omega), n_s14_ok 501 j (by omega), n_s15_ok 501 j (by omega), n_s16_ok 501 j (by omega) (by omega), n_s17_ok 501 j (by omega), n_s18_ok 501 j (by omega), n_s19_ok 501 j (by omega), n_s20_ok 501 j (by omega), n_s21_ok 501 j (by omega), n_s22_ok 501 j (by omega), n_s23_ok 501 j (by omega), n_s24_ok 501 j (by omega), n_s25_ok 501 j (by omega), n_s26_ok 501 j (by omega), n_s27_ok 501 j (by omega), n_s28_ok 501 j (by omega), n_s29_ok 501 j (by omega), n_s30_ok 501 j (by omega), n_s31_ok 501 j (by omega), n_s32_ok 501 j (by omega), n_s33_ok 501 j (by omega), n_s34_ok 501 j (by omega), n_s35_ok 501 j (by omega), n_s36_ok 501 j (by omega), n_s37_ok 501 j (by omega), n_s38_ok 501 j (by omega), n_s39_ok 501 j (by omega), n_s40_ok 501 j (by omega), n_s41_ok 501 j (by omega), n_s42_ok 501 j (by omega), n_s43_ok 501 j (by omega), n_s44_ok 501 j (by omega), n_s45_ok 501 j (by omega), n_s46_ok 501 j (by omega), n_s47_ok 501 j (by omega)⟩
