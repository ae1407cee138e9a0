theorem Ok_dO {p h : Int} {A : Int → Int} (hO : Ok p h A) {k a b c d : Int} (k0 : 0 ≤ k) (k1 : k ≤ 10) (hf : rfC A k a b c d = 0) : Ok (p + 1) (h + 120) (dO A k a b c d).1 := by
  have hp := sPos_in hO a
  obtain rfl | rfl | rfl | rfl | rfl | rfl | rfl | rfl | rfl | rfl | rfl : k = 0 ∨ k = 1 ∨ k = 2 ∨ k = 3 ∨ k = 4 ∨ k = 5 ∨ k = 6 ∨ k = 7 ∨ k = 8 ∨ k = 9 ∨ k = 10 := by omega
  all_goals
    revert hf
    unfold rfC dO
    simp (disch := omega) only [ieq_t, ieq_f, ↓reduceIte]
    try intro hf
  · split at hf
    · next h9 => exact (hO.tPl h9).mono (by omega) (by omega)
    · omega
  · unfold rLk at hf
    split at hf
    · omega
    · next q1 =>
      split at hf
      · omega
      · next q2 =>
        split at hf
        · omega
        · next q3 => exact (hO.tLk (by omega) (by omega) (by omega) (by omega) (by omega) (by omega) (by omega) (by omega) (by omega)).mono (by omega) (by omega)
  · unfold rBl at hf
    split at hf
    · omega
    · next q1 => exact (hO.tBl (by omega) (by omega) (by omega) (by omega)).mono (by omega) (by omega)
  · unfold rBl at hf
    split at hf
    · omega
    · next q1 => exact (hO.tBl (by omega) (by omega) (by omega) (by omega)).mono (by omega) (by omega)
  · unfold rPo at hf
    split at hf
    · omega
    · next q1 =>
      split at hf
      · omega
      · next q2 =>
        split at hf
        · omega
        · next q3 => exact (hO.tPo (by omega) (by omega) (by omega) (by omega) (by omega) (by omega) (by omega) (by omega) (by omega) (by omega)).mono (by omega) (by omega)
  · unfold rSe at hf
    split at hf
    · omega
    · next q1 =>
      split at hf
      · omega
      · next q2 =>
        by_cases hs : sMay A (sPos A a) b
        · exact (hO.tSe (by omega) (by omega) (by omega) (by omega) hs).mono (by omega) (by omega)
        · rw [bC_f hs, if_pos rfl] at hf; omega
  · unfold rSt at hf
    split at hf
    · omega
    · next q1 =>
      split at hf
      · omega
      · next q2 =>
        split at hf
        · omega
        · next q3 => exact (hO.tSt (by omega) (by omega) (by omega) (by omega)).mono (by omega) (by omega)
  · unfold rTk at hf
    split at hf
    · omega
    · exact (hO.tRm (.inr rfl) (by omega) (by omega)).mono (by omega) (by omega)
  · exact (Ok_sDi hO).mono (by omega) (by omega)
  · split at hf
    · exact (Ok_pL _ _ _ _ hO).mono (by omega) (by omega)
    · omega
  · exact (Ok_sHr hO).mono (by omega) (by omega)
theorem g_carryOut {p h : Int} {M : Mem} {s : Nat} {A : Int → Int} (hO : Ok p h A) (hm : Rm p (h + 120)) (hs : s ≤ 10) (hR : Rw M s) (hC : Cl M s A) {k a b c d : Int} (k0 : 0 ≤ k) (k1 : k ≤ 10) (ha : i32 a) (hb : i32 b) (hf : rfC A k a b c d = 0) : ∃ M2, f_X5_carryOut M s (iZ k) (iZ a) (iZ b) (iZ c) (iZ d) = some (iZ (dO A k a b c d).2, M2) ∧ Did s M M2 (dO A k a b c d).1 := by
  have hm0 : Rm p h := by unfold Rm at *; omega
  have hp := sPos_in hO a
  have hfi := g_find hO hm0 hs hR hC ha
  have o6 := hO.2.2.2.2.2.1
  obtain rfl | rfl | rfl | rfl | rfl | rfl | rfl | rfl | rfl | rfl | rfl : k = 0 ∨ k = 1 ∨ k = 2 ∨ k = 3 ∨ k = 4 ∨ k = 5 ∨ k = 6 ∨ k = 7 ∨ k = 8 ∨ k = 9 ∨ k = 10 := by omega
  all_goals
    revert hf
    unfold rfC dO
    simp (disch := omega) only [ieq_t, ieq_f, ↓reduceIte]
    try intro hf
  · obtain ⟨M2, h1, h2⟩ := g_putPlace hO hR hC
    refine ⟨M2, ?_, h2⟩
    clear hO hC hR h2
    simp (disch := omega) only [f_X5_carryOut, h1, ↓reduceIte, ↓nm_s, ↓lk_s, ↓pc_s, z_add, z_sub, z_mul, z_neg, z_le, z_lt, z_eq, z_ix, z_vin, z_rem, zc_0, zc_1, zc_2, zc_3, zc_4, zc_5, zc_6, zc_7, zc_8, zc_9, zc_10, zc_12, zc_20, zc_60, zc_80, zc_108, zc_120, zc_185, zc_192, zc_1344, zc_9999, zc_FAR, zc_NEV, ite_T, ite_F, bd_s, bd2_s, rz_z, toNat_cast, mR_at, mR_ne, mu_mR, il_t, il_f, ilt_t, ilt_f, ieq_t, ieq_f, nlt_t]
  · unfold rLk at hf
    split at hf
    · omega
    · split at hf
      · omega
      · split at hf
        · omega
        · next q3 =>
          obtain ⟨M2, h1, h2⟩ := g_putLink hO hR hC (by omega) a b c d
          refine ⟨M2, ?_, h2⟩
          clear hO hC hR h2
          simp (disch := omega) only [f_X5_carryOut, h1, ↓reduceIte, ↓nm_s, ↓lk_s, ↓pc_s, z_add, z_sub, z_mul, z_neg, z_le, z_lt, z_eq, z_ix, z_vin, z_rem, zc_0, zc_1, zc_2, zc_3, zc_4, zc_5, zc_6, zc_7, zc_8, zc_9, zc_10, zc_12, zc_20, zc_60, zc_80, zc_108, zc_120, zc_185, zc_192, zc_1344, zc_9999, zc_FAR, zc_NEV, ite_T, ite_F, bd_s, bd2_s, rz_z, toNat_cast, mR_at, mR_ne, mu_mR, il_t, il_f, ilt_t, ilt_f, ieq_t, ieq_f, nlt_t]
  · unfold rBl at hf
    split at hf
    · omega
    · obtain ⟨M2, h1, h2⟩ := g_setBlocked hO hm0 hs hR hC (l := a) (v := 1) (by omega) (by omega) (by omega) (by omega)
      refine ⟨M2, ?_, h2⟩
      clear hO hC hR h2
      simp (disch := omega) only [f_X5_carryOut, h1, ↓reduceIte, ↓nm_s, ↓lk_s, ↓pc_s, z_add, z_sub, z_mul, z_neg, z_le, z_lt, z_eq, z_ix, z_vin, z_rem, zc_0, zc_1, zc_2, zc_3, zc_4, zc_5, zc_6, zc_7, zc_8, zc_9, zc_10, zc_12, zc_20, zc_60, zc_80, zc_108, zc_120, zc_185, zc_192, zc_1344, zc_9999, zc_FAR, zc_NEV, ite_T, ite_F, bd_s, bd2_s, rz_z, toNat_cast, mR_at, mR_ne, mu_mR, il_t, il_f, ilt_t, ilt_f, ieq_t, ieq_f, nlt_t]
  · unfold rBl at hf
    split at hf
    · omega
    · obtain ⟨M2, h1, h2⟩ := g_setBlocked hO hm0 hs hR hC (l := a) (v := 0) (by omega) (by omega) (by omega) (by omega)
      refine ⟨M2, ?_, h2⟩
      clear hO hC hR h2
      simp (disch := omega) only [f_X5_carryOut, h1, ↓reduceIte, ↓nm_s, ↓lk_s, ↓pc_s, z_add, z_sub, z_mul, z_neg, z_le, z_lt, z_eq, z_ix, z_vin, z_rem, zc_0, zc_1, zc_2, zc_3, zc_4, zc_5, zc_6, zc_7, zc_8, zc_9, zc_10, zc_12, zc_20, zc_60, zc_80, zc_108, zc_120, zc_185, zc_192, zc_1344, zc_9999, zc_FAR, zc_NEV, ite_T, ite_F, bd_s, bd2_s, rz_z, toNat_cast, mR_at, mR_ne, mu_mR, il_t, il_f, ilt_t, ilt_f, ieq_t, ieq_f, nlt_t]
  · unfold rPo at hf
    split at hf
    · omega
    · split at hf
      · omega
      · split at hf
        · omega
        · obtain ⟨M2, h1, h2⟩ := g_putParcel hO hR hs hC (by omega) (a := a) (b := b) (w := c) (q := d) (by omega)
          refine ⟨M2, ?_, h2⟩
          clear hO hC hR h2
          simp (disch := omega) only [f_X5_carryOut, h1, ↓reduceIte, ↓nm_s, ↓lk_s, ↓pc_s, z_add, z_sub, z_mul, z_neg, z_le, z_lt, z_eq, z_ix, z_vin, z_rem, zc_0, zc_1, zc_2, zc_3, zc_4, zc_5, zc_6, zc_7, zc_8, zc_9, zc_10, zc_12, zc_20, zc_60, zc_80, zc_108, zc_120, zc_185, zc_192, zc_1344, zc_9999, zc_FAR, zc_NEV, ite_T, ite_F, bd_s, bd2_s, rz_z, toNat_cast, mR_at, mR_ne, mu_mR, il_t, il_f, ilt_t, ilt_f, ieq_t, ieq_f, nlt_t]
  · unfold rSe at hf
    split at hf
    · omega
    · next q1 =>
      split at hf
      · omega
      · have hr := hR.1 (sPos A a) (by omega) (by omega)
        obtain ⟨M2, h1, h2⟩ := g_sendOver hO hm0 hR hs hC (k := sPos A a) (l := b) (by omega) (by omega) (by omega) (by omega)
        refine ⟨M2, ?_, h2⟩
        rw [if_neg q1] at hfi
        clear hO hC hR h2
        unfold f_X5_carryOut
        simp (disch := omega) only [zc_0, zc_1, zc_2, zc_3, zc_4, zc_5, z_eq, ieq_t, ieq_f, ↓reduceIte]
        rw [bdq hfi]
        unfold on
        simp (disch := omega) only [h1, ↓reduceIte, ↓nm_s, ↓lk_s, ↓pc_s, z_add, z_sub, z_mul, z_neg, z_le, z_lt, z_eq, z_ix, z_vin, z_rem, zc_0, zc_1, zc_2, zc_3, zc_4, zc_5, zc_6, zc_7, zc_8, zc_9, zc_10, zc_12, zc_20, zc_60, zc_80, zc_108, zc_120, zc_185, zc_192, zc_1344, zc_9999, zc_FAR, zc_NEV, ite_T, ite_F, bd_s, bd2_s, rz_z, toNat_cast, mR_at, mR_ne, mu_mR, il_t, il_f, ilt_t, ilt_f, ieq_t, ieq_f, nlt_t]
  · unfold rSt at hf
    split at hf
    · omega
    · next q1 =>
      have hr := hR.1 (sPos A a) (by omega) (by omega)
      obtain ⟨M2, h1, h2⟩ := g_putStamps hO hR hC (k := sPos A a) (q := b) (by omega) (by omega)
      refine ⟨M2, ?_, h2⟩
      rw [if_neg q1] at hfi
      clear hO hC hR h2
      unfold f_X5_carryOut
      simp (disch := omega) only [zc_0, zc_1, zc_2, zc_3, zc_4, zc_5, zc_6, z_eq, ieq_t, ieq_f, ↓reduceIte]
      rw [bdq hfi]
      unfold on
      simp (disch := omega) only [h1, ↓reduceIte, ↓nm_s, ↓lk_s, ↓pc_s, z_add, z_sub, z_mul, z_neg, z_le, z_lt, z_eq, z_ix, z_vin, z_rem, zc_0, zc_1, zc_2, zc_3, zc_4, zc_5, zc_6, zc_7, zc_8, zc_9, zc_10, zc_12, zc_20, zc_60, zc_80, zc_108, zc_120, zc_185, zc_192, zc_1344, zc_9999, zc_FAR, zc_NEV, ite_T, ite_F, bd_s, bd2_s, rz_z, toNat_cast, mR_at, mR_ne, mu_mR, il_t, il_f, ilt_t, ilt_f, ieq_t, ieq_f, nlt_t]
  · unfold rTk at hf
    split at hf
    · omega
    · next q1 =>
      obtain ⟨M2, h1, h2⟩ := g_giveBack hO hm0 hs hR hC ha q1
      refine ⟨M2, ?_, h2⟩
      clear hO hC hR h2
      simp (disch := omega) only [f_X5_carryOut, h1, ↓reduceIte, ↓nm_s, ↓lk_s, ↓pc_s, z_add, z_sub, z_mul, z_neg, z_le, z_lt, z_eq, z_ix, z_vin, z_rem, zc_0, zc_1, zc_2, zc_3, zc_4, zc_5, zc_6, zc_7, zc_8, zc_9, zc_10, zc_12, zc_20, zc_60, zc_80, zc_108, zc_120, zc_185, zc_192, zc_1344, zc_9999, zc_FAR, zc_NEV, ite_T, ite_F, bd_s, bd2_s, rz_z, toNat_cast, mR_at, mR_ne, mu_mR, il_t, il_f, ilt_t, ilt_f, ieq_t, ieq_f, nlt_t]
  · obtain ⟨M2, h1, h2⟩ := g_sendAll hO hm0 hs hR hC
    refine ⟨M2, ?_, h2⟩
    clear hO hC hR h2
    simp (disch := omega) only [f_X5_carryOut, h1, ↓reduceIte, ↓nm_s, ↓lk_s, ↓pc_s, z_add, z_sub, z_mul, z_neg, z_le, z_lt, z_eq, z_ix, z_vin, z_rem, zc_0, zc_1, zc_2, zc_3, zc_4, zc_5, zc_6, zc_7, zc_8, zc_9, zc_10, zc_12, zc_20, zc_60, zc_80, zc_108, zc_120, zc_185, zc_192, zc_1344, zc_9999, zc_FAR, zc_NEV, ite_T, ite_F, bd_s, bd2_s, rz_z, toNat_cast, mR_at, mR_ne, mu_mR, il_t, il_f, ilt_t, ilt_f, ieq_t, ieq_f, nlt_t]
  · split at hf
    · obtain ⟨M2, h1, h2⟩ := g_letHoursPass hO hm hs hR hC (q := a) (by omega) (by omega)
      refine ⟨M2, ?_, h2⟩
      clear hO hC hR h2
      simp (disch := omega) only [f_X5_carryOut, h1, ↓reduceIte, ↓nm_s, ↓lk_s, ↓pc_s, z_add, z_sub, z_mul, z_neg, z_le, z_lt, z_eq, z_ix, z_vin, z_rem, zc_0, zc_1, zc_2, zc_3, zc_4, zc_5, zc_6, zc_7, zc_8, zc_9, zc_10, zc_12, zc_20, zc_60, zc_80, zc_108, zc_120, zc_185, zc_192, zc_1344, zc_9999, zc_FAR, zc_NEV, ite_T, ite_F, bd_s, bd2_s, rz_z, toNat_cast, mR_at, mR_ne, mu_mR, il_t, il_f, ilt_t, ilt_f, ieq_t, ieq_f, nlt_t]
    · omega
  · obtain ⟨M2, h1, h2⟩ := g_letHourPass hO (by unfold Rm at *; omega) hs hR hC
    refine ⟨M2, ?_, h2⟩
    clear hO hC hR h2
    simp (disch := omega) only [f_X5_carryOut, h1, ↓reduceIte, ↓nm_s, ↓lk_s, ↓pc_s, z_add, z_sub, z_mul, z_neg, z_le, z_lt, z_eq, z_ix, z_vin, z_rem, zc_0, zc_1, zc_2, zc_3, zc_4, zc_5, zc_6, zc_7, zc_8, zc_9, zc_10, zc_12, zc_20, zc_60, zc_80, zc_108, zc_120, zc_185, zc_192, zc_1344, zc_9999, zc_FAR, zc_NEV, ite_T, ite_F, bd_s, bd2_s, rz_z, toNat_cast, mR_at, mR_ne, mu_mR, il_t, il_f, ilt_t, ilt_f, ieq_t, ieq_f, nlt_t]
