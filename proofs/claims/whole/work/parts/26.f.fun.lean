theorem g_changed_20 (r : Int32) : ∀ (n f : Nat) (M : Mem) (B0 B : Int → Int) (k : Int), M 20 0 6 = iZ 8 → 0 ≤ k → k + n = 1344 → n < f → (∀ j, 0 ≤ j → j < k → B j = B0 (j + 192)) → (∀ j, k ≤ j → B j = B0 j) →
    ∃ B2, f_X8_changed_20 f (mR M 25 0 B) r (iZ k) = f_X8_changed_59 (mu (mR M 25 0 B2) 20 0 6 (iZ 7)) r ∧ ∀ j, 0 ≤ j → j < 1344 → B2 j = B0 (j + 192) := by
  intro n
  induction n with
  | zero =>
    intro f M B0 B k h6 k0 hk hf hB hB2
    obtain ⟨f, rfl⟩ : ∃ g, f = g + 1 := ⟨f - 1, by omega⟩
    refine ⟨B, ?_, fun j j0 j1 => hB j j0 (by omega)⟩
    simp (disch := omega) only [f_X8_changed_20, h6, ↓reduceIte, ↓nm_s, ↓lk_s, ↓pc_s, z_add, z_sub, z_mul, z_neg, z_le, z_lt, z_eq, z_ix, z_vin, z_rem, zc_0, zc_1, zc_2, zc_3, zc_4, zc_5, zc_6, zc_7, zc_8, zc_9, zc_10, zc_12, zc_20, zc_60, zc_80, zc_108, zc_120, zc_185, zc_192, zc_1344, zc_9999, zc_FAR, zc_NEV, ite_T, ite_F, bd_s, bd2_s, rz_z, toNat_cast, mR_at, mR_ne, mu_mR, il_t, il_f, ilt_t, ilt_f, ieq_t, ieq_f, nlt_t]
    rfl
  | succ n ih =>
    intro f M B0 B k h6 k0 hk hf hB hB2
    obtain ⟨f, rfl⟩ : ∃ g, f = g + 1 := ⟨f - 1, by omega⟩
    obtain ⟨B2, h1, h2⟩ := ih f M B0 (uI B k (B (k + 192))) (k + 1) h6 (by omega) (by omega) (by omega) (fun j j0 j1 => by
      by_cases hj : j = k
      · rw [hj, uI_eq]; exact hB2 _ (by omega)
      · rw [uI_ne _ _ hj]; exact hB j j0 (by omega)) (fun j j0 => by rw [uI_ne _ _ (by omega)]; exact hB2 j (by omega))
    refine ⟨B2, ?_, h2⟩
    rw [← h1]
    simp (disch := omega) only [f_X8_changed_20, h6, ↓reduceIte, ↓nm_s, ↓lk_s, ↓pc_s, z_add, z_sub, z_mul, z_neg, z_le, z_lt, z_eq, z_ix, z_vin, z_rem, zc_0, zc_1, zc_2, zc_3, zc_4, zc_5, zc_6, zc_7, zc_8, zc_9, zc_10, zc_12, zc_20, zc_60, zc_80, zc_108, zc_120, zc_185, zc_192, zc_1344, zc_9999, zc_FAR, zc_NEV, ite_T, ite_F, bd_s, bd2_s, rz_z, toNat_cast, mR_at, mR_ne, mu_mR, il_t, il_f, ilt_t, ilt_f, ieq_t, ieq_f, nlt_t]
