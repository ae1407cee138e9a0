/-! The reference's copies of its array. -/
theorem g_starts_7 {A : Int → Int} : ∀ (n f : Nat) (M : Mem) (C : Int → Int) (k : Int), M 21 0 = rz A → 0 ≤ k → k + n = 192 → n < f → (∀ j, 0 ≤ j → j < k → C j = A j) →
    ∃ C2, f_X8_starts_7 f (mR M 22 0 C) (iZ k) = some (mR M 22 0 C2) ∧ ∀ j, 0 ≤ j → j < 192 → C2 j = A j := by
  intro n
  induction n with
  | zero =>
    intro f M C k hA k0 hk hf hC
    obtain ⟨f, rfl⟩ : ∃ g, f = g + 1 := ⟨f - 1, by omega⟩
    refine ⟨C, ?_, fun j j0 j1 => hC j j0 (by omega)⟩
    simp (disch := omega) only [f_X8_starts_7, ↓reduceIte, ↓nm_s, ↓lk_s, ↓pc_s, z_add, z_sub, z_mul, z_neg, z_le, z_lt, z_eq, z_ix, z_vin, z_rem, zc_0, zc_1, zc_2, zc_3, zc_4, zc_5, zc_6, zc_7, zc_8, zc_9, zc_10, zc_12, zc_20, zc_60, zc_80, zc_108, zc_120, zc_185, zc_192, zc_1344, zc_9999, zc_FAR, zc_NEV, ite_T, ite_F, bd_s, bd2_s, rz_z, toNat_cast, mR_at, mR_ne, mu_mR, il_t, il_f, ilt_t, ilt_f, ieq_t, ieq_f, nlt_t]
  | succ n ih =>
    intro f M C k hA k0 hk hf hC
    obtain ⟨f, rfl⟩ : ∃ g, f = g + 1 := ⟨f - 1, by omega⟩
    obtain ⟨C2, h1, h2⟩ := ih f M (uI C k (A k)) (k + 1) hA (by omega) (by omega) (by omega) (fun j j0 j1 => by
      by_cases hj : j = k
      · rw [hj, uI_eq]
      · rw [uI_ne _ _ hj]; exact hC j j0 (by omega))
    refine ⟨C2, ?_, h2⟩
    rw [← h1]
    simp (disch := omega) only [f_X8_starts_7, hA, ↓reduceIte, ↓nm_s, ↓lk_s, ↓pc_s, z_add, z_sub, z_mul, z_neg, z_le, z_lt, z_eq, z_ix, z_vin, z_rem, zc_0, zc_1, zc_2, zc_3, zc_4, zc_5, zc_6, zc_7, zc_8, zc_9, zc_10, zc_12, zc_20, zc_60, zc_80, zc_108, zc_120, zc_185, zc_192, zc_1344, zc_9999, zc_FAR, zc_NEV, ite_T, ite_F, bd_s, bd2_s, rz_z, toNat_cast, mR_at, mR_ne, mu_mR, il_t, il_f, ilt_t, ilt_f, ieq_t, ieq_f, nlt_t]
theorem g_starts {M : Mem} {A : Int → Int} (hA : M 21 0 = rz A) : ∃ C, f_X8_starts M = some (mR (mT M 0) 22 0 C) ∧ ∀ j, 0 ≤ j → j < 192 → C j = A j := by
  obtain ⟨C0, -, -, hM⟩ := mR_self (mT M 0) 22 0
  have hA2 : mT M 0 21 0 = rz A := by unfold mT; rw [mu_ne _ _ _ (by omega)]; exact hA
  obtain ⟨C, h1, h2⟩ := g_starts_7 192 FU (mT M 0) C0 0 hA2 (by omega) (by omega) (by unfold FU; omega) (fun j j0 j1 => by omega)
  refine ⟨C, ?_, h2⟩
  rw [← hM] at h1
  unfold f_X8_starts
  rw [nm_s, zc_0]
  exact h1
