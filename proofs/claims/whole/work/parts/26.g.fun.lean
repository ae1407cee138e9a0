theorem g_changed {M : Mem} {B C : Int → Int} {c : Int} (r : Int32) (h9 : M 20 0 9 = iZ 0) (hB : M 25 0 = rz B) (hC : M 22 0 = rz C) (h6 : M 20 0 6 = iZ c) (c0 : 0 ≤ c) (c1 : c ≤ 8) :
    ∃ M2 B2 c2, f_X8_changed M r = some (r, M2) ∧ (∀ a i k, ¬ (a = 25 ∧ i = 0) → ¬ (a = 20 ∧ i = 0 ∧ k = 6) → M2 a i k = M a i k) ∧ M2 25 0 = rz B2 ∧ M2 20 0 6 = iZ c2 ∧ c2 = (if c = 8 then 8 else c + 1) ∧
      (∀ j, 0 ≤ j → j < 192 → B2 (192 * (c2 - 1) + j) = C j) ∧ ∀ i j, 0 ≤ i → i < c2 - 1 → 0 ≤ j → j < 192 → B2 (192 * i + j) = B (192 * (if c = 8 then i + 1 else i) + j) := by
  have hM : M = mR M 25 0 B := (mR_id hB).symm
  by_cases h8 : c = 8
  · subst h8
    obtain ⟨B1, q1, q2⟩ := g_changed_20 r 1344 FU M B B 0 h6 (by omega) (by omega) (by unfold FU; omega) (fun j j0 j1 => by omega) (fun j _ => rfl)
    have hMu : mu (mR M 25 0 B1) 20 0 6 (iZ 7) = mR (mu M 20 0 6 (iZ 7)) 25 0 B1 := by
      funext b j
      by_cases hb : b = 25 ∧ j = 0
      · obtain ⟨rfl, rfl⟩ := hb; rw [mu_ne _ _ _ (by omega), mR_at, mR_at]
      · rw [mR_ne _ _ hb]
        by_cases h2 : b = 20 ∧ j = 0
        · obtain ⟨rfl, rfl⟩ := h2; rw [mu_row, mu_row, mR_ne _ _ (by omega)]
        · rw [mu_ne _ _ _ h2, mu_ne _ _ _ h2, mR_ne _ _ hb]
    obtain ⟨B2, p1, p2, p3⟩ := g_changed_61 (C := C) (c := 7) (by omega) (by omega) r 192 FU (mu M 20 0 6 (iZ 7)) B1 0 (by rw [mu_ne _ _ _ (by omega)]; exact hC) (mu_hit _ _ _ _ _) (by omega) (by omega) (by unfold FU; omega)
    refine ⟨mu (mR (mu M 20 0 6 (iZ 7)) 25 0 B2) 20 0 6 (iZ 8), B2, 8, ?_, fun a i k a1 a2 => ?_, ?_, mu_hit _ _ _ _ _, by rw [if_pos rfl], fun j j0 j1 => p2 j j0 j1, fun i j i0 i1 j0 j1 => ?_⟩
    · show f_X8_changed M r = some (r, mu (mR (mu M 20 0 6 (iZ 7)) 25 0 B2) 20 0 6 (iZ 8))
      rw [show mu (mR (mu M 20 0 6 (iZ 7)) 25 0 B2) 20 0 6 (iZ 8) = mu (mR (mu M 20 0 6 (iZ 7)) 25 0 B2) 20 0 6 (iZ (7 + 1)) from rfl, ← p1, ← hMu]
      unfold f_X8_changed
      rw [h9, h6, zc_0, zc_8, if_pos (by rw [z_le (by omega) (by omega) (by omega) (by omega)]; omega), if_pos rfl]
      rw [← hM] at q1
      rw [q1]
      rfl
    · rw [mu_miss _ _ a2, mR_ne _ _ a1, mu_miss _ _ a2]
    · rw [mu_ne _ _ _ (by omega), mR_at]
    · rw [p3 _ (by omega), q2 _ (by omega) (by omega), if_pos rfl, show 192 * i + j + 192 = 192 * (i + 1) + j by omega]
  · obtain ⟨B2, p1, p2, p3⟩ := g_changed_61 (C := C) c0 (by omega) r 192 FU M B 0 hC h6 (by omega) (by omega) (by unfold FU; omega)
    refine ⟨mu (mR M 25 0 B2) 20 0 6 (iZ (c + 1)), B2, c + 1, ?_, fun a i k a1 a2 => ?_, ?_, mu_hit _ _ _ _ _, by rw [if_neg h8], fun j j0 j1 => by rw [show c + 1 - 1 = c by omega]; exact p2 j j0 j1, fun i j i0 i1 j0 j1 => ?_⟩
    · show f_X8_changed M r = some (r, mu (mR M 25 0 B2) 20 0 6 (iZ (c + 1)))
      rw [← p1, ← hM]
      unfold f_X8_changed
      rw [h9, h6, zc_0, zc_8, if_pos (by rw [z_le (by omega) (by omega) (by omega) (by omega)]; omega), if_neg (by rw [z_eq (by omega) (by omega) (by omega) (by omega)]; exact h8)]
      rfl
    · rw [mu_miss _ _ a2, mR_ne _ _ a1]
    · rw [mu_ne _ _ _ (by omega), mR_at]
    · rw [p3 _ (by omega), if_neg h8]
theorem g_unchanged {M : Mem} {t : Int} (r : Int32) (h9 : M 20 0 9 = iZ t) (t0 : 1 ≤ t) (t1 : t ≤ 9) : f_X8_changed M r = some (r, M) := by
  simp (disch := omega) only [f_X8_changed, h9, ↓reduceIte, ↓nm_s, ↓lk_s, ↓pc_s, z_add, z_sub, z_mul, z_neg, z_le, z_lt, z_eq, z_ix, z_vin, z_rem, zc_0, zc_1, zc_2, zc_3, zc_4, zc_5, zc_6, zc_7, zc_8, zc_9, zc_10, zc_12, zc_20, zc_60, zc_80, zc_108, zc_120, zc_185, zc_192, zc_1344, zc_9999, zc_FAR, zc_NEV, ite_T, ite_F, bd_s, bd2_s, rz_z, toNat_cast, mR_at, mR_ne, mu_mR, il_t, il_f, ilt_t, ilt_f, ieq_t, ieq_f, nlt_t]
