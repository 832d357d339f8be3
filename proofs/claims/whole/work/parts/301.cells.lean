/-! PURE LAYER: the rows of both objects, by their cells -/
theorem cr_2 {σ : uS} {k : Nat} (hk : k < 80) : u_rI ZC σ 0 2 (mI k) = some (σ.1 2 k) := r_I (by decide) rfl hk (by decide)
theorem cw_2 {σ : uS} {k : Nat} {v : Int32} (hk : k < 80) : u_wI ZC σ 0 2 (mI k) v = some (u_pI σ 2 k v) := w_I (by decide) rfl hk (by decide)
theorem cr_4 {σ : uS} {k : Nat} (hk : k < 16) : u_rL ZC σ 4 (mI k) = some (σ.2.1 4 k) := r_L (by decide) rfl hk (by decide)
theorem cw_4 {σ : uS} {k : Nat} {v : Int64} (hk : k < 16) : u_wL ZC σ 4 (mI k) v = some (u_pL σ 4 k v) := w_L (by decide) rfl hk (by decide)
theorem cr_6 {σ : uS} {k : Nat} (hk : k < 12) : u_rR ZC σ 6 (mI k) = σ.2.2 6 k := r_R (by decide) rfl hk (by decide)
theorem cw_6 {σ : uS} {k v : Nat} (hk : k < 12) : u_wR ZC σ 6 (mI k) v = some (u_pR σ 6 k (some v)) := w_R (by decide) rfl hk (by decide)
theorem cr_7 {σ : uS} {k : Nat} (hk : k < 2) : u_rR ZC σ 7 (mI k) = σ.2.2 7 k := r_R (by decide) rfl hk (by decide)
theorem cw_7 {σ : uS} {k v : Nat} (hk : k < 2) : u_wR ZC σ 7 (mI k) v = some (u_pR σ 7 k (some v)) := w_R (by decide) rfl hk (by decide)
theorem cr_10 {σ : uS} {k : Nat} (hk : k < 16) : u_rI ZC σ 0 10 (mI k) = some (σ.1 10 k) := r_I (by decide) rfl hk (by decide)
theorem cw_10 {σ : uS} {k : Nat} {v : Int32} (hk : k < 16) : u_wI ZC σ 0 10 (mI k) v = some (u_pI σ 10 k v) := w_I (by decide) rfl hk (by decide)
theorem cr_12 {σ : uS} {k : Nat} (hk : k < 8) : u_rI ZC σ 0 12 (mI k) = some (σ.1 12 k) := r_I (by decide) rfl hk (by decide)
theorem cw_12 {σ : uS} {k : Nat} {v : Int32} (hk : k < 8) : u_wI ZC σ 0 12 (mI k) v = some (u_pI σ 12 k v) := w_I (by decide) rfl hk (by decide)
theorem cr_13 {σ : uS} {k : Nat} (hk : k < 8) : u_rI ZC σ 0 13 (mI k) = some (σ.1 13 k) := r_I (by decide) rfl hk (by decide)
theorem cw_13 {σ : uS} {k : Nat} {v : Int32} (hk : k < 8) : u_wI ZC σ 0 13 (mI k) v = some (u_pI σ 13 k v) := w_I (by decide) rfl hk (by decide)
theorem cr_14 {σ : uS} {k : Nat} (hk : k < 8) : u_rI ZC σ 0 14 (mI k) = some (σ.1 14 k) := r_I (by decide) rfl hk (by decide)
theorem cw_14 {σ : uS} {k : Nat} {v : Int32} (hk : k < 8) : u_wI ZC σ 0 14 (mI k) v = some (u_pI σ 14 k v) := w_I (by decide) rfl hk (by decide)
theorem cr_16 {σ : uS} {k : Nat} (hk : k < 60) : u_rI ZC σ 0 16 (mI k) = some (σ.1 16 k) := r_I (by decide) rfl hk (by decide)
theorem cw_16 {σ : uS} {k : Nat} {v : Int32} (hk : k < 60) : u_wI ZC σ 0 16 (mI k) v = some (u_pI σ 16 k v) := w_I (by decide) rfl hk (by decide)
theorem cr_17 {σ : uS} {k : Nat} (hk : k < 60) : u_rI ZC σ 0 17 (mI k) = some (σ.1 17 k) := r_I (by decide) rfl hk (by decide)
theorem cw_17 {σ : uS} {k : Nat} {v : Int32} (hk : k < 60) : u_wI ZC σ 0 17 (mI k) v = some (u_pI σ 17 k v) := w_I (by decide) rfl hk (by decide)
theorem cr_18 {σ : uS} {k : Nat} (hk : k < 60) : u_rI ZC σ 0 18 (mI k) = some (σ.1 18 k) := r_I (by decide) rfl hk (by decide)
theorem cw_18 {σ : uS} {k : Nat} {v : Int32} (hk : k < 60) : u_wI ZC σ 0 18 (mI k) v = some (u_pI σ 18 k v) := w_I (by decide) rfl hk (by decide)
theorem cr_19 {σ : uS} {k : Nat} (hk : k < 201) : u_rI ZC σ 0 19 (mI k) = some (σ.1 19 k) := r_I (by decide) rfl hk (by decide)
theorem cw_19 {σ : uS} {k : Nat} {v : Int32} (hk : k < 201) : u_wI ZC σ 0 19 (mI k) v = some (u_pI σ 19 k v) := w_I (by decide) rfl hk (by decide)
theorem cr_20 {σ : uS} {k : Nat} (hk : k < 13) : u_rL ZC σ 20 (mI k) = some (σ.2.1 20 k) := r_L (by decide) rfl hk (by decide)
theorem cw_20 {σ : uS} {k : Nat} {v : Int64} (hk : k < 13) : u_wL ZC σ 20 (mI k) v = some (u_pL σ 20 k v) := w_L (by decide) rfl hk (by decide)
theorem cr_33 {σ : uS} {k : Nat} (hk : k < 16) : u_rI ZC σ 0 33 (mI k) = some (σ.1 33 k) := r_I (by decide) rfl hk (by decide)
theorem cw_33 {σ : uS} {k : Nat} {v : Int32} (hk : k < 16) : u_wI ZC σ 0 33 (mI k) v = some (u_pI σ 33 k v) := w_I (by decide) rfl hk (by decide)
theorem cr_34 {σ : uS} {k : Nat} (hk : k < 8) : u_rI ZC σ 0 34 (mI k) = some (σ.1 34 k) := r_I (by decide) rfl hk (by decide)
theorem cw_34 {σ : uS} {k : Nat} {v : Int32} (hk : k < 8) : u_wI ZC σ 0 34 (mI k) v = some (u_pI σ 34 k v) := w_I (by decide) rfl hk (by decide)
theorem cr_36 {σ : uS} {k : Nat} (hk : k < 8) : u_rI ZC σ 0 36 (mI k) = some (σ.1 36 k) := r_I (by decide) rfl hk (by decide)
theorem cw_36 {σ : uS} {k : Nat} {v : Int32} (hk : k < 8) : u_wI ZC σ 0 36 (mI k) v = some (u_pI σ 36 k v) := w_I (by decide) rfl hk (by decide)
theorem cr_37 {σ : uS} {k : Nat} (hk : k < 8) : u_rI ZC σ 0 37 (mI k) = some (σ.1 37 k) := r_I (by decide) rfl hk (by decide)
theorem cw_37 {σ : uS} {k : Nat} {v : Int32} (hk : k < 8) : u_wI ZC σ 0 37 (mI k) v = some (u_pI σ 37 k v) := w_I (by decide) rfl hk (by decide)
theorem cr_39 {σ : uS} {k : Nat} (hk : k < 16) : u_rI ZC σ 0 39 (mI k) = some (σ.1 39 k) := r_I (by decide) rfl hk (by decide)
theorem cw_39 {σ : uS} {k : Nat} {v : Int32} (hk : k < 16) : u_wI ZC σ 0 39 (mI k) v = some (u_pI σ 39 k v) := w_I (by decide) rfl hk (by decide)
theorem cr_40 {σ : uS} {k : Nat} (hk : k < 8) : u_rI ZC σ 0 40 (mI k) = some (σ.1 40 k) := r_I (by decide) rfl hk (by decide)
theorem cw_40 {σ : uS} {k : Nat} {v : Int32} (hk : k < 8) : u_wI ZC σ 0 40 (mI k) v = some (u_pI σ 40 k v) := w_I (by decide) rfl hk (by decide)
theorem cr_43 {σ : uS} {k : Nat} (hk : k < 8) : u_rI ZC σ 0 43 (mI k) = some (σ.1 43 k) := r_I (by decide) rfl hk (by decide)
theorem cw_43 {σ : uS} {k : Nat} {v : Int32} (hk : k < 8) : u_wI ZC σ 0 43 (mI k) v = some (u_pI σ 43 k v) := w_I (by decide) rfl hk (by decide)
theorem mr_1 {σ : uS} {k : Nat} (hk : k < 37) : u_rI ZM σ 0 1 (mI k) = some (σ.1 1 k) := r_I (by decide) rfl hk (by decide)
theorem mw_1 {σ : uS} {k : Nat} {v : Int32} (hk : k < 37) : u_wI ZM σ 0 1 (mI k) v = some (u_pI σ 1 k v) := w_I (by decide) rfl hk (by decide)
theorem mr_2 {σ : uS} {k : Nat} (hk : k < 8) : u_rI ZM σ 0 2 (mI k) = some (σ.1 2 k) := r_I (by decide) rfl hk (by decide)
theorem mw_2 {σ : uS} {k : Nat} {v : Int32} (hk : k < 8) : u_wI ZM σ 0 2 (mI k) v = some (u_pI σ 2 k v) := w_I (by decide) rfl hk (by decide)
theorem mr_3 {σ : uS} {k : Nat} (hk : k < 80) : u_rI ZM σ 2 3 (mI k) = some (σ.1 3 k) := r_I (by decide) rfl hk (by decide)
theorem mw_3 {σ : uS} {k : Nat} {v : Int32} (hk : k < 80) : u_wI ZM σ 2 3 (mI k) v = some (u_pI σ 3 k (u_nar 2 v)) := w_I (by decide) rfl hk (by decide)
theorem mr_4 {σ : uS} {k : Nat} (hk : k < 20) : u_rL ZM σ 4 (mI k) = some (σ.2.1 4 k) := r_L (by decide) rfl hk (by decide)
theorem mw_4 {σ : uS} {k : Nat} {v : Int64} (hk : k < 20) : u_wL ZM σ 4 (mI k) v = some (u_pL σ 4 k v) := w_L (by decide) rfl hk (by decide)
theorem mr_5 {σ : uS} {k : Nat} (hk : k < 40) : u_rI ZM σ 0 5 (mI k) = some (σ.1 5 k) := r_I (by decide) rfl hk (by decide)
theorem mw_5 {σ : uS} {k : Nat} {v : Int32} (hk : k < 40) : u_wI ZM σ 0 5 (mI k) v = some (u_pI σ 5 k v) := w_I (by decide) rfl hk (by decide)
theorem mr_6 {σ : uS} {k : Nat} (hk : k < 40) : u_rI ZM σ 2 6 (mI k) = some (σ.1 6 k) := r_I (by decide) rfl hk (by decide)
theorem mw_6 {σ : uS} {k : Nat} {v : Int32} (hk : k < 40) : u_wI ZM σ 2 6 (mI k) v = some (u_pI σ 6 k (u_nar 2 v)) := w_I (by decide) rfl hk (by decide)
theorem mr_7 {σ : uS} {k : Nat} (hk : k < 40) : u_rI ZM σ 2 7 (mI k) = some (σ.1 7 k) := r_I (by decide) rfl hk (by decide)
theorem mw_7 {σ : uS} {k : Nat} {v : Int32} (hk : k < 40) : u_wI ZM σ 2 7 (mI k) v = some (u_pI σ 7 k (u_nar 2 v)) := w_I (by decide) rfl hk (by decide)
theorem mr_8 {σ : uS} {k : Nat} (hk : k < 7) : u_rI ZM σ 0 8 (mI k) = some (σ.1 8 k) := r_I (by decide) rfl hk (by decide)
theorem mw_8 {σ : uS} {k : Nat} {v : Int32} (hk : k < 7) : u_wI ZM σ 0 8 (mI k) v = some (u_pI σ 8 k v) := w_I (by decide) rfl hk (by decide)
theorem mr_9 {σ : uS} {k : Nat} (hk : k < 444) : u_rI ZM σ 0 9 (mI k) = some (σ.1 9 k) := r_I (by decide) rfl hk (by decide)
theorem mw_9 {σ : uS} {k : Nat} {v : Int32} (hk : k < 444) : u_wI ZM σ 0 9 (mI k) v = some (u_pI σ 9 k v) := w_I (by decide) rfl hk (by decide)
theorem mr_10 {σ : uS} {k : Nat} (hk : k < 37) : u_rI ZM σ 0 10 (mI k) = some (σ.1 10 k) := r_I (by decide) rfl hk (by decide)
theorem mw_10 {σ : uS} {k : Nat} {v : Int32} (hk : k < 37) : u_wI ZM σ 0 10 (mI k) v = some (u_pI σ 10 k v) := w_I (by decide) rfl hk (by decide)
theorem mr_11 {σ : uS} {k : Nat} (hk : k < 37) : u_rI ZM σ 0 11 (mI k) = some (σ.1 11 k) := r_I (by decide) rfl hk (by decide)
theorem mw_11 {σ : uS} {k : Nat} {v : Int32} (hk : k < 37) : u_wI ZM σ 0 11 (mI k) v = some (u_pI σ 11 k v) := w_I (by decide) rfl hk (by decide)
theorem mr_12 {σ : uS} {k : Nat} (hk : k < 37) : u_rI ZM σ 0 12 (mI k) = some (σ.1 12 k) := r_I (by decide) rfl hk (by decide)
theorem mw_12 {σ : uS} {k : Nat} {v : Int32} (hk : k < 37) : u_wI ZM σ 0 12 (mI k) v = some (u_pI σ 12 k v) := w_I (by decide) rfl hk (by decide)
theorem mr_13 {σ : uS} {k : Nat} (hk : k < 8) : u_rI ZM σ 0 13 (mI k) = some (σ.1 13 k) := r_I (by decide) rfl hk (by decide)
theorem mw_13 {σ : uS} {k : Nat} {v : Int32} (hk : k < 8) : u_wI ZM σ 0 13 (mI k) v = some (u_pI σ 13 k v) := w_I (by decide) rfl hk (by decide)
theorem mr_14 {σ : uS} {k : Nat} (hk : k < 240) : u_rI ZM σ 0 14 (mI k) = some (σ.1 14 k) := r_I (by decide) rfl hk (by decide)
theorem mw_14 {σ : uS} {k : Nat} {v : Int32} (hk : k < 240) : u_wI ZM σ 0 14 (mI k) v = some (u_pI σ 14 k v) := w_I (by decide) rfl hk (by decide)
theorem mr_15 {σ : uS} {k : Nat} (hk : k < 201) : u_rL ZM σ 15 (mI k) = some (σ.2.1 15 k) := r_L (by decide) rfl hk (by decide)
theorem mw_15 {σ : uS} {k : Nat} {v : Int64} (hk : k < 201) : u_wL ZM σ 15 (mI k) v = some (u_pL σ 15 k v) := w_L (by decide) rfl hk (by decide)
theorem mr_16 {σ : uS} {k : Nat} (hk : k < 12) : u_rI ZM σ 0 16 (mI k) = some (σ.1 16 k) := r_I (by decide) rfl hk (by decide)
theorem mw_16 {σ : uS} {k : Nat} {v : Int32} (hk : k < 12) : u_wI ZM σ 0 16 (mI k) v = some (u_pI σ 16 k v) := w_I (by decide) rfl hk (by decide)
theorem mr_17 {σ : uS} {k : Nat} (hk : k < 16) : u_rI ZM σ 0 17 (mI k) = some (σ.1 17 k) := r_I (by decide) rfl hk (by decide)
theorem mw_17 {σ : uS} {k : Nat} {v : Int32} (hk : k < 16) : u_wI ZM σ 0 17 (mI k) v = some (u_pI σ 17 k v) := w_I (by decide) rfl hk (by decide)
theorem mr_18 {σ : uS} {k : Nat} (hk : k < 74) : u_rI ZM σ 0 18 (mI k) = some (σ.1 18 k) := r_I (by decide) rfl hk (by decide)
theorem mw_18 {σ : uS} {k : Nat} {v : Int32} (hk : k < 74) : u_wI ZM σ 0 18 (mI k) v = some (u_pI σ 18 k v) := w_I (by decide) rfl hk (by decide)
theorem mr_19 {σ : uS} {k : Nat} (hk : k < 2) : u_rI ZM σ 3 19 (mI k) = some (σ.1 19 k) := r_I (by decide) rfl hk (by decide)
theorem mw_19 {σ : uS} {k : Nat} {v : Int32} (hk : k < 2) : u_wI ZM σ 3 19 (mI k) v = some (u_pI σ 19 k (u_nar 3 v)) := w_I (by decide) rfl hk (by decide)
theorem mr_20 {σ : uS} {k : Nat} (hk : k < 2) : u_rI ZM σ 0 20 (mI k) = some (σ.1 20 k) := r_I (by decide) rfl hk (by decide)
theorem mw_20 {σ : uS} {k : Nat} {v : Int32} (hk : k < 2) : u_wI ZM σ 0 20 (mI k) v = some (u_pI σ 20 k v) := w_I (by decide) rfl hk (by decide)
theorem zs_1 {i : Nat} (h1 : 32 ≤ i) (h2 : i < 134) (h3 : (i - 32) % 6 = 0) : i + 1 < ZC.1 ∧ ZC.2.1 (i + 1) = .inl (0, 16) := by
  refine ⟨by show i + 1 < 134; omega, ?_⟩
  show zc_sh (i + 1) = _
  unfold zc_sh
  rw [if_pos (by omega), if_neg (by omega), if_pos (by omega)]
theorem sr_1 {σ : uS} {i k : Nat} (h1 : 32 ≤ i) (h2 : i < 134) (h3 : (i - 32) % 6 = 0) (hk : k < 16) : u_rI ZC σ 0 (i + 1) (mI k) = some (σ.1 (i + 1) k) := r_I (zs_1 h1 h2 h3).1 (zs_1 h1 h2 h3).2 hk (by decide)
theorem sw_1 {σ : uS} {i k : Nat} {v : Int32} (h1 : 32 ≤ i) (h2 : i < 134) (h3 : (i - 32) % 6 = 0) (hk : k < 16) : u_wI ZC σ 0 (i + 1) (mI k) v = some (u_pI σ (i + 1) k v) := w_I (zs_1 h1 h2 h3).1 (zs_1 h1 h2 h3).2 hk (by decide)
theorem zs_2 {i : Nat} (h1 : 32 ≤ i) (h2 : i < 134) (h3 : (i - 32) % 6 = 0) : i + 2 < ZC.1 ∧ ZC.2.1 (i + 2) = .inl (0, 8) := by
  refine ⟨by show i + 2 < 134; omega, ?_⟩
  show zc_sh (i + 2) = _
  unfold zc_sh
  rw [if_pos (by omega), if_neg (by omega), if_neg (by omega)]
theorem sr_2 {σ : uS} {i k : Nat} (h1 : 32 ≤ i) (h2 : i < 134) (h3 : (i - 32) % 6 = 0) (hk : k < 8) : u_rI ZC σ 0 (i + 2) (mI k) = some (σ.1 (i + 2) k) := r_I (zs_2 h1 h2 h3).1 (zs_2 h1 h2 h3).2 hk (by decide)
theorem sw_2 {σ : uS} {i k : Nat} {v : Int32} (h1 : 32 ≤ i) (h2 : i < 134) (h3 : (i - 32) % 6 = 0) (hk : k < 8) : u_wI ZC σ 0 (i + 2) (mI k) v = some (u_pI σ (i + 2) k v) := w_I (zs_2 h1 h2 h3).1 (zs_2 h1 h2 h3).2 hk (by decide)
theorem zs_3 {i : Nat} (h1 : 32 ≤ i) (h2 : i < 134) (h3 : (i - 32) % 6 = 0) : i + 3 < ZC.1 ∧ ZC.2.1 (i + 3) = .inl (0, 8) := by
  refine ⟨by show i + 3 < 134; omega, ?_⟩
  show zc_sh (i + 3) = _
  unfold zc_sh
  rw [if_pos (by omega), if_neg (by omega), if_neg (by omega)]
theorem sr_3 {σ : uS} {i k : Nat} (h1 : 32 ≤ i) (h2 : i < 134) (h3 : (i - 32) % 6 = 0) (hk : k < 8) : u_rI ZC σ 0 (i + 3) (mI k) = some (σ.1 (i + 3) k) := r_I (zs_3 h1 h2 h3).1 (zs_3 h1 h2 h3).2 hk (by decide)
theorem sw_3 {σ : uS} {i k : Nat} {v : Int32} (h1 : 32 ≤ i) (h2 : i < 134) (h3 : (i - 32) % 6 = 0) (hk : k < 8) : u_wI ZC σ 0 (i + 3) (mI k) v = some (u_pI σ (i + 3) k v) := w_I (zs_3 h1 h2 h3).1 (zs_3 h1 h2 h3).2 hk (by decide)
theorem zs_4 {i : Nat} (h1 : 32 ≤ i) (h2 : i < 134) (h3 : (i - 32) % 6 = 0) : i + 4 < ZC.1 ∧ ZC.2.1 (i + 4) = .inl (0, 8) := by
  refine ⟨by show i + 4 < 134; omega, ?_⟩
  show zc_sh (i + 4) = _
  unfold zc_sh
  rw [if_pos (by omega), if_neg (by omega), if_neg (by omega)]
theorem sr_4 {σ : uS} {i k : Nat} (h1 : 32 ≤ i) (h2 : i < 134) (h3 : (i - 32) % 6 = 0) (hk : k < 8) : u_rI ZC σ 0 (i + 4) (mI k) = some (σ.1 (i + 4) k) := r_I (zs_4 h1 h2 h3).1 (zs_4 h1 h2 h3).2 hk (by decide)
theorem sw_4 {σ : uS} {i k : Nat} {v : Int32} (h1 : 32 ≤ i) (h2 : i < 134) (h3 : (i - 32) % 6 = 0) (hk : k < 8) : u_wI ZC σ 0 (i + 4) (mI k) v = some (u_pI σ (i + 4) k v) := w_I (zs_4 h1 h2 h3).1 (zs_4 h1 h2 h3).2 hk (by decide)
theorem zs_5 {i : Nat} (h1 : 32 ≤ i) (h2 : i < 134) (h3 : (i - 32) % 6 = 0) : i + 5 < ZC.1 ∧ ZC.2.1 (i + 5) = .inl (0, 8) := by
  refine ⟨by show i + 5 < 134; omega, ?_⟩
  show zc_sh (i + 5) = _
  unfold zc_sh
  rw [if_pos (by omega), if_neg (by omega), if_neg (by omega)]
theorem sr_5 {σ : uS} {i k : Nat} (h1 : 32 ≤ i) (h2 : i < 134) (h3 : (i - 32) % 6 = 0) (hk : k < 8) : u_rI ZC σ 0 (i + 5) (mI k) = some (σ.1 (i + 5) k) := r_I (zs_5 h1 h2 h3).1 (zs_5 h1 h2 h3).2 hk (by decide)
theorem sw_5 {σ : uS} {i k : Nat} {v : Int32} (h1 : 32 ≤ i) (h2 : i < 134) (h3 : (i - 32) % 6 = 0) (hk : k < 8) : u_wI ZC σ 0 (i + 5) (mI k) v = some (u_pI σ (i + 5) k v) := w_I (zs_5 h1 h2 h3).1 (zs_5 h1 h2 h3).2 hk (by decide)
theorem zr_1 {i : Nat} (h : i = 22 ∨ i = 27) : i + 1 < ZC.1 ∧ ZC.2.1 (i + 1) = .inl (0, 40) := by
  rcases h with rfl | rfl <;> exact ⟨by decide, rfl⟩
theorem rr_1 {σ : uS} {i k : Nat} (h : i = 22 ∨ i = 27) (hk : k < 40) : u_rI ZC σ 0 (i + 1) (mI k) = some (σ.1 (i + 1) k) := r_I (zr_1 h).1 (zr_1 h).2 hk (by decide)
theorem rw_1 {σ : uS} {i k : Nat} {v : Int32} (h : i = 22 ∨ i = 27) (hk : k < 40) : u_wI ZC σ 0 (i + 1) (mI k) v = some (u_pI σ (i + 1) k v) := w_I (zr_1 h).1 (zr_1 h).2 hk (by decide)
theorem rl_1 {i : Nat} (h : i = 22 ∨ i = 27) : u_len ZC (i + 1) = some (mI 40) := by
  unfold u_len
  rw [(zr_1 h).2]
  exact if_pos ⟨(zr_1 h).1, by decide⟩
theorem zr_2 {i : Nat} (h : i = 22 ∨ i = 27) : i + 2 < ZC.1 ∧ ZC.2.1 (i + 2) = .inl (0, 40) := by
  rcases h with rfl | rfl <;> exact ⟨by decide, rfl⟩
theorem rr_2 {σ : uS} {i k : Nat} (h : i = 22 ∨ i = 27) (hk : k < 40) : u_rI ZC σ 0 (i + 2) (mI k) = some (σ.1 (i + 2) k) := r_I (zr_2 h).1 (zr_2 h).2 hk (by decide)
theorem rw_2 {σ : uS} {i k : Nat} {v : Int32} (h : i = 22 ∨ i = 27) (hk : k < 40) : u_wI ZC σ 0 (i + 2) (mI k) v = some (u_pI σ (i + 2) k v) := w_I (zr_2 h).1 (zr_2 h).2 hk (by decide)
theorem rl_2 {i : Nat} (h : i = 22 ∨ i = 27) : u_len ZC (i + 2) = some (mI 40) := by
  unfold u_len
  rw [(zr_2 h).2]
  exact if_pos ⟨(zr_2 h).1, by decide⟩
theorem zr_3 {i : Nat} (h : i = 22 ∨ i = 27) : i + 3 < ZC.1 ∧ ZC.2.1 (i + 3) = .inl (0, 41) := by
  rcases h with rfl | rfl <;> exact ⟨by decide, rfl⟩
theorem rr_3 {σ : uS} {i k : Nat} (h : i = 22 ∨ i = 27) (hk : k < 41) : u_rI ZC σ 0 (i + 3) (mI k) = some (σ.1 (i + 3) k) := r_I (zr_3 h).1 (zr_3 h).2 hk (by decide)
theorem rw_3 {σ : uS} {i k : Nat} {v : Int32} (h : i = 22 ∨ i = 27) (hk : k < 41) : u_wI ZC σ 0 (i + 3) (mI k) v = some (u_pI σ (i + 3) k v) := w_I (zr_3 h).1 (zr_3 h).2 hk (by decide)
theorem rl_3 {i : Nat} (h : i = 22 ∨ i = 27) : u_len ZC (i + 3) = some (mI 41) := by
  unfold u_len
  rw [(zr_3 h).2]
  exact if_pos ⟨(zr_3 h).1, by decide⟩
theorem zr_4 {i : Nat} (h : i = 22 ∨ i = 27) : i + 4 < ZC.1 ∧ ZC.2.1 (i + 4) = .inl (0, 7) := by
  rcases h with rfl | rfl <;> exact ⟨by decide, rfl⟩
theorem rr_4 {σ : uS} {i k : Nat} (h : i = 22 ∨ i = 27) (hk : k < 7) : u_rI ZC σ 0 (i + 4) (mI k) = some (σ.1 (i + 4) k) := r_I (zr_4 h).1 (zr_4 h).2 hk (by decide)
theorem rw_4 {σ : uS} {i k : Nat} {v : Int32} (h : i = 22 ∨ i = 27) (hk : k < 7) : u_wI ZC σ 0 (i + 4) (mI k) v = some (u_pI σ (i + 4) k v) := w_I (zr_4 h).1 (zr_4 h).2 hk (by decide)
theorem rl_4 {i : Nat} (h : i = 22 ∨ i = 27) : u_len ZC (i + 4) = some (mI 7) := by
  unfold u_len
  rw [(zr_4 h).2]
  exact if_pos ⟨(zr_4 h).1, by decide⟩
theorem rr_30 {σ : uS} {i : Nat} (h : i = 22 ∨ i = 27) : u_rI ZC σ 0 (i + 3) 0 = some (σ.1 (i + 3) 0) := rr_3 (k := 0) h (by decide)
theorem rr_40 {σ : uS} {i : Nat} (h : i = 22 ∨ i = 27) : u_rI ZC σ 0 (i + 4) 0 = some (σ.1 (i + 4) 0) := rr_4 (k := 0) h (by decide)
theorem rw_40 {σ : uS} {i : Nat} {v : Int32} (h : i = 22 ∨ i = 27) : u_wI ZC σ 0 (i + 4) 0 v = some (u_pI σ (i + 4) 0 v) := rw_4 (k := 0) h (by decide)
theorem mw_80 {σ : uS} {v : Int32} : u_wI ZM σ 0 8 0 v = some (u_pI σ 8 0 v) := mw_8 (k := 0) (by decide)
theorem rr_41 {σ : uS} {i : Nat} (h : i = 22 ∨ i = 27) : u_rI ZC σ 0 (i + 4) 1 = some (σ.1 (i + 4) 1) := rr_4 (k := 1) h (by decide)
theorem rw_41 {σ : uS} {i : Nat} {v : Int32} (h : i = 22 ∨ i = 27) : u_wI ZC σ 0 (i + 4) 1 v = some (u_pI σ (i + 4) 1 v) := rw_4 (k := 1) h (by decide)
theorem mw_81 {σ : uS} {v : Int32} : u_wI ZM σ 0 8 1 v = some (u_pI σ 8 1 v) := mw_8 (k := 1) (by decide)
theorem rr_42 {σ : uS} {i : Nat} (h : i = 22 ∨ i = 27) : u_rI ZC σ 0 (i + 4) 2 = some (σ.1 (i + 4) 2) := rr_4 (k := 2) h (by decide)
theorem rw_42 {σ : uS} {i : Nat} {v : Int32} (h : i = 22 ∨ i = 27) : u_wI ZC σ 0 (i + 4) 2 v = some (u_pI σ (i + 4) 2 v) := rw_4 (k := 2) h (by decide)
theorem mw_82 {σ : uS} {v : Int32} : u_wI ZM σ 0 8 2 v = some (u_pI σ 8 2 v) := mw_8 (k := 2) (by decide)
theorem rr_43 {σ : uS} {i : Nat} (h : i = 22 ∨ i = 27) : u_rI ZC σ 0 (i + 4) 3 = some (σ.1 (i + 4) 3) := rr_4 (k := 3) h (by decide)
theorem rw_43 {σ : uS} {i : Nat} {v : Int32} (h : i = 22 ∨ i = 27) : u_wI ZC σ 0 (i + 4) 3 v = some (u_pI σ (i + 4) 3 v) := rw_4 (k := 3) h (by decide)
theorem mw_83 {σ : uS} {v : Int32} : u_wI ZM σ 0 8 3 v = some (u_pI σ 8 3 v) := mw_8 (k := 3) (by decide)
theorem rr_44 {σ : uS} {i : Nat} (h : i = 22 ∨ i = 27) : u_rI ZC σ 0 (i + 4) 4 = some (σ.1 (i + 4) 4) := rr_4 (k := 4) h (by decide)
theorem rw_44 {σ : uS} {i : Nat} {v : Int32} (h : i = 22 ∨ i = 27) : u_wI ZC σ 0 (i + 4) 4 v = some (u_pI σ (i + 4) 4 v) := rw_4 (k := 4) h (by decide)
theorem mw_84 {σ : uS} {v : Int32} : u_wI ZM σ 0 8 4 v = some (u_pI σ 8 4 v) := mw_8 (k := 4) (by decide)
theorem rr_45 {σ : uS} {i : Nat} (h : i = 22 ∨ i = 27) : u_rI ZC σ 0 (i + 4) 5 = some (σ.1 (i + 4) 5) := rr_4 (k := 5) h (by decide)
theorem rw_45 {σ : uS} {i : Nat} {v : Int32} (h : i = 22 ∨ i = 27) : u_wI ZC σ 0 (i + 4) 5 v = some (u_pI σ (i + 4) 5 v) := rw_4 (k := 5) h (by decide)
theorem mw_85 {σ : uS} {v : Int32} : u_wI ZM σ 0 8 5 v = some (u_pI σ 8 5 v) := mw_8 (k := 5) (by decide)
theorem rr_46 {σ : uS} {i : Nat} (h : i = 22 ∨ i = 27) : u_rI ZC σ 0 (i + 4) 6 = some (σ.1 (i + 4) 6) := rr_4 (k := 6) h (by decide)
theorem rw_46 {σ : uS} {i : Nat} {v : Int32} (h : i = 22 ∨ i = 27) : u_wI ZC σ 0 (i + 4) 6 v = some (u_pI σ (i + 4) 6 v) := rw_4 (k := 6) h (by decide)
theorem mw_86 {σ : uS} {v : Int32} : u_wI ZM σ 0 8 6 v = some (u_pI σ 8 6 v) := mw_8 (k := 6) (by decide)
theorem zv {a : Nat} (h : a = 1 ∨ a = 10 ∨ a = 11 ∨ a = 12) : a < ZM.1 ∧ ZM.2.1 a = .inl (0, 37) := by
  rcases h with rfl | rfl | rfl | rfl <;> exact ⟨by decide, rfl⟩
theorem vr {σ : uS} {a k : Nat} (h : a = 1 ∨ a = 10 ∨ a = 11 ∨ a = 12) (hk : k < 37) : u_rI ZM σ 0 a (mI k) = some (σ.1 a k) := r_I (zv h).1 (zv h).2 hk (by decide)
theorem vw {σ : uS} {a k : Nat} {v : Int32} (h : a = 1 ∨ a = 10 ∨ a = 11 ∨ a = 12) (hk : k < 37) : u_wI ZM σ 0 a (mI k) v = some (u_pI σ a k v) := w_I (zv h).1 (zv h).2 hk (by decide)
theorem vr32 {σ : uS} {a : Nat} (h : a = 1 ∨ a = 10 ∨ a = 11 ∨ a = 12) : u_rI ZM σ 0 a 32 = some (σ.1 a 32) := vr (k := 32) h (by decide)
theorem vw32 {σ : uS} {a : Nat} {v : Int32} (h : a = 1 ∨ a = 10 ∨ a = 11 ∨ a = 12) : u_wI ZM σ 0 a 32 v = some (u_pI σ a 32 v) := vw (k := 32) h (by decide)
theorem vr33 {σ : uS} {a : Nat} (h : a = 1 ∨ a = 10 ∨ a = 11 ∨ a = 12) : u_rI ZM σ 0 a 33 = some (σ.1 a 33) := vr (k := 33) h (by decide)
theorem vw33 {σ : uS} {a : Nat} {v : Int32} (h : a = 1 ∨ a = 10 ∨ a = 11 ∨ a = 12) : u_wI ZM σ 0 a 33 v = some (u_pI σ a 33 v) := vw (k := 33) h (by decide)
theorem vr34 {σ : uS} {a : Nat} (h : a = 1 ∨ a = 10 ∨ a = 11 ∨ a = 12) : u_rI ZM σ 0 a 34 = some (σ.1 a 34) := vr (k := 34) h (by decide)
theorem vw34 {σ : uS} {a : Nat} {v : Int32} (h : a = 1 ∨ a = 10 ∨ a = 11 ∨ a = 12) : u_wI ZM σ 0 a 34 v = some (u_pI σ a 34 v) := vw (k := 34) h (by decide)
theorem vr35 {σ : uS} {a : Nat} (h : a = 1 ∨ a = 10 ∨ a = 11 ∨ a = 12) : u_rI ZM σ 0 a 35 = some (σ.1 a 35) := vr (k := 35) h (by decide)
theorem vw35 {σ : uS} {a : Nat} {v : Int32} (h : a = 1 ∨ a = 10 ∨ a = 11 ∨ a = 12) : u_wI ZM σ 0 a 35 v = some (u_pI σ a 35 v) := vw (k := 35) h (by decide)
theorem vr36 {σ : uS} {a : Nat} (h : a = 1 ∨ a = 10 ∨ a = 11 ∨ a = 12) : u_rI ZM σ 0 a 36 = some (σ.1 a 36) := vr (k := 36) h (by decide)
theorem vw36 {σ : uS} {a : Nat} {v : Int32} (h : a = 1 ∨ a = 10 ∨ a = 11 ∨ a = 12) : u_wI ZM σ 0 a 36 v = some (u_pI σ a 36 v) := vw (k := 36) h (by decide)
theorem cr_20_0 {σ : uS} : u_rL ZC σ 20 0 = some (σ.2.1 20 0) := cr_20 (k := 0) (by decide)
theorem cw_20_0 {σ : uS} {v : Int64} : u_wL ZC σ 20 0 v = some (u_pL σ 20 0 v) := cw_20 (k := 0) (by decide)
theorem cr_6_0 {σ : uS} : u_rR ZC σ 6 0 = σ.2.2 6 0 := cr_6 (k := 0) (by decide)
theorem cl_2 : u_len ZC 2 = some (mI 80) := rfl
theorem cl_4 : u_len ZC 4 = some (mI 16) := rfl
theorem cl_6 : u_len ZC 6 = some (mI 12) := rfl
theorem cl_7 : u_len ZC 7 = some (mI 2) := rfl
theorem cl_10 : u_len ZC 10 = some (mI 16) := rfl
theorem cl_16 : u_len ZC 16 = some (mI 60) := rfl
theorem cl_20 : u_len ZC 20 = some (mI 13) := rfl
