theorem g_changed_61 {C : Int → Int} {c : Int} (c0 : 0 ≤ c) (c1 : c < 8) (r : Int32) : ∀ (n f : Nat) (M : Mem) (B : Int → Int) (k : Int), M 22 0 = rz C → M 20 0 6 = iZ c → 0 ≤ k → k + n = 192 → n < f →
    ∃ B2, f_X8_changed_61 f (mR M 25 0 B) r (iZ k) = some (r, mu (mR M 25 0 B2) 20 0 6 (iZ (c + 1))) ∧ (∀ j, k ≤ j → j < 192 → B2 (192 * c + j) = C j) ∧ ∀ e, e < 192 * c + k → B2 e = B e := by
  intro n
  induction n with
  | zero =>
    intro f M B k hC h6 k0 hk hf
    obtain ⟨f, rfl⟩ : ∃ g, f = g + 1 := ⟨f - 1, by omega⟩
    refine ⟨B, ?_, fun j j0 j1 => by omega, fun e _ => rfl⟩
    simp (disch := omega) only [f_X8_changed_61, h6, ↓reduceIte, ↓nm_s, ↓lk_s, ↓pc_s, z_add, z_sub, z_mul, z_neg, z_le, z_lt, z_eq, z_ix, z_vin, z_rem, zc_0, zc_1, zc_2, zc_3, zc_4, zc_5, zc_6, zc_7, zc_8, zc_9, zc_10, zc_12, zc_20, zc_60, zc_80, zc_108, zc_120, zc_185, zc_192, zc_1344, zc_9999, zc_FAR, zc_NEV, ite_T, ite_F, bd_s, bd2_s, rz_z, toNat_cast, mR_at, mR_ne, mu_mR, il_t, il_f, ilt_t, ilt_f, ieq_t, ieq_f, nlt_t]
  | succ n ih =>
    intro f M B k hC h6 k0 hk hf
    obtain ⟨f, rfl⟩ : ∃ g, f = g + 1 := ⟨f - 1, by omega⟩
    obtain ⟨B2, h1, h2, h3⟩ := ih f M (uI B (192 * c + k) (C k)) (k + 1) hC h6 (by omega) (by omega) (by omega)
    refine ⟨B2, ?_, fun j j0 j1 => ?_, fun e he => ?_⟩
    · rw [← h1]
      simp (disch := omega) only [f_X8_changed_61, hC, h6, ↓reduceIte, ↓nm_s, ↓lk_s, ↓pc_s, z_add, z_sub, z_mul, z_neg, z_le, z_lt, z_eq, z_ix, z_vin, z_rem, zc_0, zc_1, zc_2, zc_3, zc_4, zc_5, zc_6, zc_7, zc_8, zc_9, zc_10, zc_12, zc_20, zc_60, zc_80, zc_108, zc_120, zc_185, zc_192, zc_1344, zc_9999, zc_FAR, zc_NEV, ite_T, ite_F, bd_s, bd2_s, rz_z, toNat_cast, mR_at, mR_ne, mu_mR, il_t, il_f, ilt_t, ilt_f, ieq_t, ieq_f, nlt_t]
    · by_cases hj : j = k
      · subst hj; rw [h3 _ (by omega), uI_eq]
      · exact h2 j (by omega) j1
    · rw [h3 e (by omega), uI_ne _ _ (by omega)]
