/-! The class's history. -/
theorem g_keep {p h : Int} {A : Int → Int} (hO : Ok p h A) {M : Mem} {o c : Int} (h1 : M 11 0 1 = iZ o) (h2 : M 11 0 2 = iZ c) (o0 : 0 ≤ o) (o8 : o < 8) (c0 : 0 ≤ c) (c8 : c ≤ 8) (hR : ∀ s, s ≤ 10 → Rw M s) (hC : Cl M 0 A) :
    ∃ M2, f_X0_keep M 0 = some M2 ∧ Cl M2 (3 + ((o + c) % 8).toNat) A ∧ Rw M2 (3 + ((o + c) % 8).toNat) ∧ (∀ a i, ¬ own (3 + ((o + c) % 8).toNat) a i → a ≠ 11 → M2 a i = M a i) ∧ M2 11 0 1 = iZ (if c = 8 then (o + 1) % 8 else o) ∧ M2 11 0 2 = iZ (if c = 8 then 8 else c + 1) := by
  have hi : ((o + c) % 8).toNat ≤ 7 := by omega
  obtain ⟨M2, q1, q2, q3, q4⟩ := g_copySrv hO (s := 3 + ((o + c) % 8).toNat) (t := 0) (by omega) (by omega) (by omega) (hR _ (by omega)) (hR 0 (by omega)) hC
  have h11 : M2 11 0 = M 11 0 := q4 11 0 (by unfold own; omega)
  by_cases h8 : c = 8
  · subst h8
    rw [if_pos rfl, if_pos rfl]
    refine ⟨mu M2 11 0 1 (iZ ((o + 1) % 8)), ?_, Cl_rows (fun a i ha => mu_ne _ _ _ (by omega)) q2, Rw_mu (by omega) q3, fun a i hn ha => by rw [mu_ne _ _ _ (by omega)]; exact q4 a i hn, mu_hit _ _ _ _ _, by rw [mu_miss _ _ (by omega), h11]; exact h2⟩
    simp (disch := omega) only [f_X0_keep, h1, h2, h11, q1, ↓reduceIte, ↓nm_s, ↓lk_s, ↓pc_s, z_add, z_sub, z_mul, z_neg, z_le, z_lt, z_eq, z_ix, z_vin, z_rem, zc_0, zc_1, zc_2, zc_3, zc_4, zc_5, zc_6, zc_7, zc_8, zc_9, zc_10, zc_12, zc_20, zc_60, zc_80, zc_108, zc_120, zc_185, zc_192, zc_1344, zc_9999, zc_FAR, zc_NEV, ite_T, ite_F, bd_s, bd2_s, rz_z, toNat_cast, mR_at, mR_ne, mu_mR, il_t, il_f, ilt_t, ilt_f, ieq_t, ieq_f, nlt_t]
  · rw [if_neg h8, if_neg h8]
    refine ⟨mu M2 11 0 2 (iZ (c + 1)), ?_, Cl_rows (fun a i ha => mu_ne _ _ _ (by omega)) q2, Rw_mu (by omega) q3, fun a i hn ha => by rw [mu_ne _ _ _ (by omega)]; exact q4 a i hn, by rw [mu_miss _ _ (by omega), h11]; exact h1, mu_hit _ _ _ _ _⟩
    simp (disch := omega) only [f_X0_keep, h1, h2, h11, q1, ↓reduceIte, ↓nm_s, ↓lk_s, ↓pc_s, z_add, z_sub, z_mul, z_neg, z_le, z_lt, z_eq, z_ix, z_vin, z_rem, zc_0, zc_1, zc_2, zc_3, zc_4, zc_5, zc_6, zc_7, zc_8, zc_9, zc_10, zc_12, zc_20, zc_60, zc_80, zc_108, zc_120, zc_185, zc_192, zc_1344, zc_9999, zc_FAR, zc_NEV, ite_T, ite_F, bd_s, bd2_s, rz_z, toNat_cast, mR_at, mR_ne, mu_mR, il_t, il_f, ilt_t, ilt_f, ieq_t, ieq_f, nlt_t]
theorem g_bringBack {p h : Int} {A : Int → Int} (hO : Ok p h A) {M : Mem} {o c : Int} (h1 : M 11 0 1 = iZ o) (h2 : M 11 0 2 = iZ c) (o0 : 0 ≤ o) (o8 : o < 8) (c0 : 1 ≤ c) (c8 : c ≤ 8) (hR : ∀ s, s ≤ 10 → Rw M s) (hC : Cl M (3 + ((o + (c - 1)) % 8).toNat) A) :
    ∃ M2, f_X0_bringBackTo M 0 = some M2 ∧ Cl M2 0 A ∧ Rw M2 0 ∧ (∀ a i, ¬ own 0 a i → a ≠ 11 → M2 a i = M a i) ∧ M2 11 0 1 = iZ o ∧ M2 11 0 2 = iZ (c - 1) := by
  have hi : ((o + (c - 1)) % 8).toNat ≤ 7 := by omega
  obtain ⟨M2, q1, q2, q3, q4⟩ := g_copySrv hO (M := mu M 11 0 2 (iZ (c - 1))) (s := 0) (t := 3 + ((o + (c - 1)) % 8).toNat) (by omega) (by omega) (by omega) (Rw_mu (by omega) (hR 0 (by omega))) (Rw_mu (by omega) (hR _ (by omega))) (Cl_rows (fun a i ha => mu_ne _ _ _ (by omega)) hC)
  have h11 : M2 11 0 = mu M 11 0 2 (iZ (c - 1)) 11 0 := q4 11 0 (by unfold own; omega)
  refine ⟨M2, ?_, q2, q3, fun a i hn ha => by rw [q4 a i hn, mu_ne _ _ _ (by omega)], by rw [h11, mu_miss _ _ (by omega)]; exact h1, by rw [h11, mu_hit]⟩
  simp (disch := omega) only [f_X0_bringBackTo, h1, h2, mu_hit, mu_miss, q1, ↓reduceIte, ↓nm_s, ↓lk_s, ↓pc_s, z_add, z_sub, z_mul, z_neg, z_le, z_lt, z_eq, z_ix, z_vin, z_rem, zc_0, zc_1, zc_2, zc_3, zc_4, zc_5, zc_6, zc_7, zc_8, zc_9, zc_10, zc_12, zc_20, zc_60, zc_80, zc_108, zc_120, zc_185, zc_192, zc_1344, zc_9999, zc_FAR, zc_NEV, ite_T, ite_F, bd_s, bd2_s, rz_z, toNat_cast, mR_at, mR_ne, mu_mR, il_t, il_f, ilt_t, ilt_f, ieq_t, ieq_f, nlt_t]
