theorem g_blockIt {p h : Int} {A : Int → Int} (hO : Ok p h A) (hm : Rm p h) (M : Mem) {l v : Int} (hl : i32 l) (v0 : 0 ≤ v) (v1 : v ≤ 1) : f_X8_blockIt (mR M 21 0 A) (iZ l) (iZ v) =
    if ¬ (0 ≤ l ∧ l < A 1) then some (iZ (-1), mT (mR M 21 0 A) 1) else if A (8 + 5 * l + 4) = v then some (iZ (-1), mT (mR M 21 0 A) 2) else some (iZ (sBlk (tBl A l v)), mR M 21 0 (tBl A l v)) := by
  have h1 := g_X8_isLink hO (mR_at M 21 0 A) hl
  have o4 := hO.2.2.2.1
  unfold bI at h1
  by_cases c1 : 0 ≤ l ∧ l < A 1
  · rw [if_pos c1] at h1
    rw [if_neg (by omega)]
    have hb := g_X8_blocked (hO.tBl c1.1 c1.2 v0 v1) hm (mR_at M 21 0 (tBl A l v))
    have hk := hO.2.2.2.2.2.2.2.2.2.2.2.1 l c1.1 c1.2
    unfold lnk at hk
    have hk2 : 0 ≤ A (8 + 5 * l + 4) ∧ A (8 + 5 * l + 4) ≤ 1 := by omega
    clear hk
    by_cases c2 : A (8 + 5 * l + 4) = v
    · rw [if_pos c2]
      simp (disch := omega) only [f_X8_blockIt, ↓bdq h1, mT_s, ↓reduceIte, ↓nm_s, ↓lk_s, ↓pc_s, z_add, z_sub, z_mul, z_neg, z_le, z_lt, z_eq, z_ix, z_vin, z_rem, zc_0, zc_1, zc_2, zc_3, zc_4, zc_5, zc_6, zc_7, zc_8, zc_9, zc_10, zc_12, zc_20, zc_60, zc_80, zc_108, zc_120, zc_185, zc_192, zc_1344, zc_9999, zc_FAR, zc_NEV, ite_T, ite_F, bd_s, bd2_s, rz_z, toNat_cast, mR_at, mR_ne, mu_mR, il_t, il_f, ilt_t, ilt_f, ieq_t, ieq_f, nlt_t]
    · rw [if_neg c2]
      unfold tBl at hb ⊢
      simp (disch := omega) only [f_X8_blockIt, ↓bdq h1, hb, mT_s, ↓reduceIte, ↓nm_s, ↓lk_s, ↓pc_s, z_add, z_sub, z_mul, z_neg, z_le, z_lt, z_eq, z_ix, z_vin, z_rem, zc_0, zc_1, zc_2, zc_3, zc_4, zc_5, zc_6, zc_7, zc_8, zc_9, zc_10, zc_12, zc_20, zc_60, zc_80, zc_108, zc_120, zc_185, zc_192, zc_1344, zc_9999, zc_FAR, zc_NEV, ite_T, ite_F, bd_s, bd2_s, rz_z, toNat_cast, mR_at, mR_ne, mu_mR, il_t, il_f, ilt_t, ilt_f, ieq_t, ieq_f, nlt_t]
  · rw [if_neg c1] at h1
    rw [if_pos (by omega)]
    simp (disch := omega) only [f_X8_blockIt, ↓bdq h1, mT_s, ↓reduceIte, ↓nm_s, ↓lk_s, ↓pc_s, z_add, z_sub, z_mul, z_neg, z_le, z_lt, z_eq, z_ix, z_vin, z_rem, zc_0, zc_1, zc_2, zc_3, zc_4, zc_5, zc_6, zc_7, zc_8, zc_9, zc_10, zc_12, zc_20, zc_60, zc_80, zc_108, zc_120, zc_185, zc_192, zc_1344, zc_9999, zc_FAR, zc_NEV, ite_T, ite_F, bd_s, bd2_s, rz_z, toNat_cast, mR_at, mR_ne, mu_mR, il_t, il_f, ilt_t, ilt_f, ieq_t, ieq_f, nlt_t]
theorem g_postIt {p h : Int} {A : Int → Int} (hO : Ok p h A) (M : Mem) {a b w q : Int} (ha : i32 a) (hb : i32 b) (hw : i32 w) (hq : i32 q) : f_X8_postIt (mR M 21 0 A) (iZ a) (iZ b) (iZ w) (iZ q) =
    if ¬ ((0 ≤ a ∧ a < A 0) ∧ (0 ≤ b ∧ b < A 0)) then some (iZ (-1), mT (mR M 21 0 A) 1) else if ¬ (a ≠ b ∧ (1 ≤ w ∧ w ≤ 9) ∧ (0 ≤ q ∧ q ≤ 20)) then some (iZ (-1), mT (mR M 21 0 A) 2) else if ¬ A 2 < 12 then some (iZ (-1), mT (mR M 21 0 A) 3) else some (iZ (A 3), mR M 21 0 (tPo A a b w q)) := by
  have h1 := g_X8_isPlace hO (mR_at M 21 0 A) ha
  have h2 := g_X8_isPlace hO (mR_at M 21 0 A) hb
  have h3 := g_X8_in (mR M 21 0 A) hw (by omega : i32 1) (by omega : i32 9)
  have h4 := g_X8_in (mR M 21 0 A) hq (by omega : i32 0) (by omega : i32 20)
  obtain ⟨o1, o2, o3, o4, o5, o6, o7, o8, o9, o10, o11, ol, ob, op, oc⟩ := hO
  clear ol ob op oc
  unfold i32 at *
  unfold bI at *
  rw [← c64_1, ← c64_9] at h3
  rw [← c64_0, ← c64_20] at h4
  by_cases c1 : 0 ≤ a ∧ a < A 0
  · rw [if_pos c1] at h1
    by_cases c2 : 0 ≤ b ∧ b < A 0
    · rw [if_pos c2] at h2
      rw [if_neg (by omega)]
      by_cases c3 : a = b
      · rw [if_pos (by omega)]
        simp (disch := omega) only [f_X8_postIt, f_X8_postIt_16, f_X8_postIt_52, ↓bdq h1, ↓bdq h2, mT_s, ↓reduceIte, ↓nm_s, ↓lk_s, ↓pc_s, z_add, z_sub, z_mul, z_neg, z_le, z_lt, z_eq, z_ix, z_vin, z_rem, zc_0, zc_1, zc_2, zc_3, zc_4, zc_5, zc_6, zc_7, zc_8, zc_9, zc_10, zc_12, zc_20, zc_60, zc_80, zc_108, zc_120, zc_185, zc_192, zc_1344, zc_9999, zc_FAR, zc_NEV, ite_T, ite_F, bd_s, bd2_s, rz_z, toNat_cast, mR_at, mR_ne, mu_mR, il_t, il_f, ilt_t, ilt_f, ieq_t, ieq_f, nlt_t]
      · by_cases c4 : 1 ≤ w ∧ w ≤ 9
        · rw [if_pos c4] at h3
          by_cases c5 : 0 ≤ q ∧ q ≤ 20
          · rw [if_pos c5] at h4
            rw [if_neg (by omega)]
            by_cases c6 : A 2 < 12
            · rw [if_neg (by omega)]
              simp (disch := omega) only [f_X8_postIt, f_X8_postIt_16, f_X8_postIt_52, ↓bdq h1, ↓bdq h2, ↓bdq h3, ↓bdq h4, mT_s, rz_2, rz_3, mu21_2, mu21_3, uI_ne, uI_eq, ↓reduceIte, ↓nm_s, ↓lk_s, ↓pc_s, z_add, z_sub, z_mul, z_neg, z_le, z_lt, z_eq, z_ix, z_vin, z_rem, zc_0, zc_1, zc_2, zc_3, zc_4, zc_5, zc_6, zc_7, zc_8, zc_9, zc_10, zc_12, zc_20, zc_60, zc_80, zc_108, zc_120, zc_185, zc_192, zc_1344, zc_9999, zc_FAR, zc_NEV, ite_T, ite_F, bd_s, bd2_s, rz_z, toNat_cast, mR_at, mR_ne, mu_mR, il_t, il_f, ilt_t, ilt_f, ieq_t, ieq_f, nlt_t]
              rfl
            · rw [if_pos (by omega)]
              simp (disch := omega) only [f_X8_postIt, f_X8_postIt_16, f_X8_postIt_52, ↓bdq h1, ↓bdq h2, ↓bdq h3, ↓bdq h4, mT_s, rz_2, ↓reduceIte, ↓nm_s, ↓lk_s, ↓pc_s, z_add, z_sub, z_mul, z_neg, z_le, z_lt, z_eq, z_ix, z_vin, z_rem, zc_0, zc_1, zc_2, zc_3, zc_4, zc_5, zc_6, zc_7, zc_8, zc_9, zc_10, zc_12, zc_20, zc_60, zc_80, zc_108, zc_120, zc_185, zc_192, zc_1344, zc_9999, zc_FAR, zc_NEV, ite_T, ite_F, bd_s, bd2_s, rz_z, toNat_cast, mR_at, mR_ne, mu_mR, il_t, il_f, ilt_t, ilt_f, ieq_t, ieq_f, nlt_t]
          · rw [if_neg c5] at h4
            rw [if_pos (by omega)]
            simp (disch := omega) only [f_X8_postIt, f_X8_postIt_16, f_X8_postIt_52, ↓bdq h1, ↓bdq h2, ↓bdq h3, ↓bdq h4, mT_s, ↓reduceIte, ↓nm_s, ↓lk_s, ↓pc_s, z_add, z_sub, z_mul, z_neg, z_le, z_lt, z_eq, z_ix, z_vin, z_rem, zc_0, zc_1, zc_2, zc_3, zc_4, zc_5, zc_6, zc_7, zc_8, zc_9, zc_10, zc_12, zc_20, zc_60, zc_80, zc_108, zc_120, zc_185, zc_192, zc_1344, zc_9999, zc_FAR, zc_NEV, ite_T, ite_F, bd_s, bd2_s, rz_z, toNat_cast, mR_at, mR_ne, mu_mR, il_t, il_f, ilt_t, ilt_f, ieq_t, ieq_f, nlt_t]
        · rw [if_neg c4] at h3
          rw [if_pos (by omega)]
          simp (disch := omega) only [f_X8_postIt, f_X8_postIt_16, f_X8_postIt_52, ↓bdq h1, ↓bdq h2, ↓bdq h3, mT_s, ↓reduceIte, ↓nm_s, ↓lk_s, ↓pc_s, z_add, z_sub, z_mul, z_neg, z_le, z_lt, z_eq, z_ix, z_vin, z_rem, zc_0, zc_1, zc_2, zc_3, zc_4, zc_5, zc_6, zc_7, zc_8, zc_9, zc_10, zc_12, zc_20, zc_60, zc_80, zc_108, zc_120, zc_185, zc_192, zc_1344, zc_9999, zc_FAR, zc_NEV, ite_T, ite_F, bd_s, bd2_s, rz_z, toNat_cast, mR_at, mR_ne, mu_mR, il_t, il_f, ilt_t, ilt_f, ieq_t, ieq_f, nlt_t]
    · rw [if_neg c2] at h2
      rw [if_pos (by omega)]
      simp (disch := omega) only [f_X8_postIt, f_X8_postIt_16, f_X8_postIt_52, ↓bdq h1, ↓bdq h2, mT_s, ↓reduceIte, ↓nm_s, ↓lk_s, ↓pc_s, z_add, z_sub, z_mul, z_neg, z_le, z_lt, z_eq, z_ix, z_vin, z_rem, zc_0, zc_1, zc_2, zc_3, zc_4, zc_5, zc_6, zc_7, zc_8, zc_9, zc_10, zc_12, zc_20, zc_60, zc_80, zc_108, zc_120, zc_185, zc_192, zc_1344, zc_9999, zc_FAR, zc_NEV, ite_T, ite_F, bd_s, bd2_s, rz_z, toNat_cast, mR_at, mR_ne, mu_mR, il_t, il_f, ilt_t, ilt_f, ieq_t, ieq_f, nlt_t]
  · rw [if_neg c1] at h1
    rw [if_pos (by omega)]
    simp (disch := omega) only [f_X8_postIt, f_X8_postIt_16, f_X8_postIt_52, ↓bdq h1, mT_s, ↓reduceIte, ↓nm_s, ↓lk_s, ↓pc_s, z_add, z_sub, z_mul, z_neg, z_le, z_lt, z_eq, z_ix, z_vin, z_rem, zc_0, zc_1, zc_2, zc_3, zc_4, zc_5, zc_6, zc_7, zc_8, zc_9, zc_10, zc_12, zc_20, zc_60, zc_80, zc_108, zc_120, zc_185, zc_192, zc_1344, zc_9999, zc_FAR, zc_NEV, ite_T, ite_F, bd_s, bd2_s, rz_z, toNat_cast, mR_at, mR_ne, mu_mR, il_t, il_f, ilt_t, ilt_f, ieq_t, ieq_f, nlt_t]
theorem g_stampIt {p h : Int} {A : Int → Int} (hO : Ok p h A) (hm : Rm p h) (M : Mem) {d q : Int} (hd : i32 d) (hq : i32 q) : f_X8_stampIt (mR M 21 0 A) (iZ d) (iZ q) =
    if sPos A d = -1 then some (iZ (-1), mT (mR M 21 0 A) 1) else if ¬ (1 ≤ q ∧ q ≤ 20) then some (iZ (-1), mT (mR M 21 0 A) 2) else if ¬ A (108 + 7 * sPos A d + 3) + q ≤ 20 then some (iZ (-1), mT (mR M 21 0 A) 3) else some (iZ (A (108 + 7 * sPos A d + 3) + q), mR M 21 0 (tSt A (sPos A d) q)) := by
  have h1 := g_X8_find hO hm (mR_at M 21 0 A) hd
  have h3 := g_X8_in (mR M 21 0 A) hq (by omega : i32 1) (by omega : i32 20)
  have hp := sPos_in hO d
  obtain ⟨o1, o2, o3, o4, o5, o6, o7, o8, o9, o10, o11, ol, ob, op, oc⟩ := hO
  have hpc := op (sPos A d)
  clear ol ob op oc
  unfold i32 at *
  unfold bI at *
  rw [← c64_1, ← c64_20] at h3
  by_cases c1 : sPos A d = -1
  · rw [if_pos c1]
    rw [c1] at h1
    simp (disch := omega) only [f_X8_stampIt, ↓bdq h1, mT_s, ↓reduceIte, ↓nm_s, ↓lk_s, ↓pc_s, z_add, z_sub, z_mul, z_neg, z_le, z_lt, z_eq, z_ix, z_vin, z_rem, zc_0, zc_1, zc_2, zc_3, zc_4, zc_5, zc_6, zc_7, zc_8, zc_9, zc_10, zc_12, zc_20, zc_60, zc_80, zc_108, zc_120, zc_185, zc_192, zc_1344, zc_9999, zc_FAR, zc_NEV, ite_T, ite_F, bd_s, bd2_s, rz_z, toNat_cast, mR_at, mR_ne, mu_mR, il_t, il_f, ilt_t, ilt_f, ieq_t, ieq_f, nlt_t]
  · rw [if_neg c1]
    have hpc := hpc (by omega) (by omega)
    unfold pcl at hpc
    have hs : 0 ≤ A (108 + 7 * sPos A d + 3) ∧ A (108 + 7 * sPos A d + 3) ≤ 20 := by omega
    have hp2 : 0 ≤ sPos A d ∧ sPos A d < 12 := by omega
    clear hpc
    by_cases c4 : 1 ≤ q ∧ q ≤ 20
    · rw [if_pos c4] at h3
      rw [if_neg (by omega)]
      by_cases c5 : A (108 + 7 * sPos A d + 3) + q ≤ 20
      · rw [if_neg (by omega)]
        simp (disch := omega) only [f_X8_stampIt, ↓bdq h1, ↓bdq h3, mT_s, uI_eq, ↓reduceIte, ↓nm_s, ↓lk_s, ↓pc_s, z_add, z_sub, z_mul, z_neg, z_le, z_lt, z_eq, z_ix, z_vin, z_rem, zc_0, zc_1, zc_2, zc_3, zc_4, zc_5, zc_6, zc_7, zc_8, zc_9, zc_10, zc_12, zc_20, zc_60, zc_80, zc_108, zc_120, zc_185, zc_192, zc_1344, zc_9999, zc_FAR, zc_NEV, ite_T, ite_F, bd_s, bd2_s, rz_z, toNat_cast, mR_at, mR_ne, mu_mR, il_t, il_f, ilt_t, ilt_f, ieq_t, ieq_f, nlt_t]
        rfl
      · rw [if_pos (by omega)]
        simp (disch := omega) only [f_X8_stampIt, ↓bdq h1, ↓bdq h3, mT_s, ↓reduceIte, ↓nm_s, ↓lk_s, ↓pc_s, z_add, z_sub, z_mul, z_neg, z_le, z_lt, z_eq, z_ix, z_vin, z_rem, zc_0, zc_1, zc_2, zc_3, zc_4, zc_5, zc_6, zc_7, zc_8, zc_9, zc_10, zc_12, zc_20, zc_60, zc_80, zc_108, zc_120, zc_185, zc_192, zc_1344, zc_9999, zc_FAR, zc_NEV, ite_T, ite_F, bd_s, bd2_s, rz_z, toNat_cast, mR_at, mR_ne, mu_mR, il_t, il_f, ilt_t, ilt_f, ieq_t, ieq_f, nlt_t]
    · rw [if_neg c4] at h3
      rw [if_pos (by omega)]
      simp (disch := omega) only [f_X8_stampIt, ↓bdq h1, ↓bdq h3, mT_s, ↓reduceIte, ↓nm_s, ↓lk_s, ↓pc_s, z_add, z_sub, z_mul, z_neg, z_le, z_lt, z_eq, z_ix, z_vin, z_rem, zc_0, zc_1, zc_2, zc_3, zc_4, zc_5, zc_6, zc_7, zc_8, zc_9, zc_10, zc_12, zc_20, zc_60, zc_80, zc_108, zc_120, zc_185, zc_192, zc_1344, zc_9999, zc_FAR, zc_NEV, ite_T, ite_F, bd_s, bd2_s, rz_z, toNat_cast, mR_at, mR_ne, mu_mR, il_t, il_f, ilt_t, ilt_f, ieq_t, ieq_f, nlt_t]
theorem g_sends {p h : Int} {A : Int → Int} (hO : Ok p h A) (hm : Rm p h) (M : Mem) {k l : Int} (k0 : 0 ≤ k) (k1 : k < A 2) (l0 : 0 ≤ l) (l1 : l < A 1) : f_X8_sends (mR M 21 0 A) (iZ k) (iZ l) = some (iZ (A 4 + A (8 + 5 * l + 2)), mR M 21 0 (tSe A k l)) := by
  obtain ⟨o1, o2, o3, o4, o5, o6, o7, o8, o9, o10, o11, ol, ob, op, oc⟩ := hO
  clear ol ob op oc
  simp (disch := omega) only [f_X8_sends, rz_7, rz_4, mu21_7, uI_ne, uI_eq, ↓reduceIte, ↓nm_s, ↓lk_s, ↓pc_s, z_add, z_sub, z_mul, z_neg, z_le, z_lt, z_eq, z_ix, z_vin, z_rem, zc_0, zc_1, zc_2, zc_3, zc_4, zc_5, zc_6, zc_7, zc_8, zc_9, zc_10, zc_12, zc_20, zc_60, zc_80, zc_108, zc_120, zc_185, zc_192, zc_1344, zc_9999, zc_FAR, zc_NEV, ite_T, ite_F, bd_s, bd2_s, rz_z, toNat_cast, mR_at, mR_ne, mu_mR, il_t, il_f, ilt_t, ilt_f, ieq_t, ieq_f, nlt_t]
  rfl
theorem g_sendIt {p h : Int} {A : Int → Int} (hO : Ok p h A) (hm : Rm p h) (M : Mem) {d l : Int} (hd : i32 d) (hl : i32 l) : f_X8_sendIt (mR M 21 0 A) (iZ d) (iZ l) =
    if sPos A d = -1 then some (iZ (-1), mT (mR M 21 0 A) 1) else if ¬ (0 ≤ l ∧ l < A 1) then some (iZ (-1), mT (mR M 21 0 A) 2) else if bC (sMay A (sPos A d) l) = 0 then some (iZ (-1), mT (mR M 21 0 A) 3) else some (iZ (A 4 + A (8 + 5 * l + 2)), mR M 21 0 (tSe A (sPos A d) l)) := by
  have h1 := g_X8_find hO hm (mR_at M 21 0 A) hd
  have h2 := g_X8_isLink hO (mR_at M 21 0 A) hl
  have hp := sPos_in hO d
  have o4 := hO.2.2.2.1
  have o6 := hO.2.2.2.2.2.1
  unfold i32 at *
  unfold bI at *
  by_cases c1 : sPos A d = -1
  · rw [if_pos c1]
    rw [c1] at h1
    simp (disch := omega) only [f_X8_sendIt, ↓bdq h1, mT_s, ↓reduceIte, ↓nm_s, ↓lk_s, ↓pc_s, z_add, z_sub, z_mul, z_neg, z_le, z_lt, z_eq, z_ix, z_vin, z_rem, zc_0, zc_1, zc_2, zc_3, zc_4, zc_5, zc_6, zc_7, zc_8, zc_9, zc_10, zc_12, zc_20, zc_60, zc_80, zc_108, zc_120, zc_185, zc_192, zc_1344, zc_9999, zc_FAR, zc_NEV, ite_T, ite_F, bd_s, bd2_s, rz_z, toNat_cast, mR_at, mR_ne, mu_mR, il_t, il_f, ilt_t, ilt_f, ieq_t, ieq_f, nlt_t]
  · rw [if_neg c1]
    by_cases c2 : 0 ≤ l ∧ l < A 1
    · rw [if_pos c2] at h2
      rw [if_neg (by omega)]
      have h3 := g_X8_maySend hO hm (mR_at M 21 0 A) (k := sPos A d) (by omega) (by omega) c2.1 c2.2
      have h4 := g_sends hO hm M (k := sPos A d) (by omega) (by omega) c2.1 c2.2
      by_cases c3 : sMay A (sPos A d) l
      · rw [bC_t c3] at h3 ⊢
        rw [if_neg (by omega)]
        simp (disch := omega) only [f_X8_sendIt, ↓bdq h1, ↓bdq h2, ↓bdq h3, h4, mT_s, ↓reduceIte, ↓nm_s, ↓lk_s, ↓pc_s, z_add, z_sub, z_mul, z_neg, z_le, z_lt, z_eq, z_ix, z_vin, z_rem, zc_0, zc_1, zc_2, zc_3, zc_4, zc_5, zc_6, zc_7, zc_8, zc_9, zc_10, zc_12, zc_20, zc_60, zc_80, zc_108, zc_120, zc_185, zc_192, zc_1344, zc_9999, zc_FAR, zc_NEV, ite_T, ite_F, bd_s, bd2_s, rz_z, toNat_cast, mR_at, mR_ne, mu_mR, il_t, il_f, ilt_t, ilt_f, ieq_t, ieq_f, nlt_t]
      · rw [bC_f c3] at h3 ⊢
        rw [if_pos rfl]
        simp (disch := omega) only [f_X8_sendIt, ↓bdq h1, ↓bdq h2, ↓bdq h3, mT_s, ↓reduceIte, ↓nm_s, ↓lk_s, ↓pc_s, z_add, z_sub, z_mul, z_neg, z_le, z_lt, z_eq, z_ix, z_vin, z_rem, zc_0, zc_1, zc_2, zc_3, zc_4, zc_5, zc_6, zc_7, zc_8, zc_9, zc_10, zc_12, zc_20, zc_60, zc_80, zc_108, zc_120, zc_185, zc_192, zc_1344, zc_9999, zc_FAR, zc_NEV, ite_T, ite_F, bd_s, bd2_s, rz_z, toNat_cast, mR_at, mR_ne, mu_mR, il_t, il_f, ilt_t, ilt_f, ieq_t, ieq_f, nlt_t]
    · rw [if_neg c2] at h2
      rw [if_pos (by omega)]
      simp (disch := omega) only [f_X8_sendIt, ↓bdq h1, ↓bdq h2, mT_s, ↓reduceIte, ↓nm_s, ↓lk_s, ↓pc_s, z_add, z_sub, z_mul, z_neg, z_le, z_lt, z_eq, z_ix, z_vin, z_rem, zc_0, zc_1, zc_2, zc_3, zc_4, zc_5, zc_6, zc_7, zc_8, zc_9, zc_10, zc_12, zc_20, zc_60, zc_80, zc_108, zc_120, zc_185, zc_192, zc_1344, zc_9999, zc_FAR, zc_NEV, ite_T, ite_F, bd_s, bd2_s, rz_z, toNat_cast, mR_at, mR_ne, mu_mR, il_t, il_f, ilt_t, ilt_f, ieq_t, ieq_f, nlt_t]
def lvp (A : Int → Int) (k a : Int) : Int → Int := fun j => if 108 + 7 * k ≤ j ∧ j < a then A (j + 7) else A j
def zvp (A : Int → Int) (a : Int) : Int → Int := fun j => if 185 ≤ j ∧ j < a then 0 else A j
theorem g_leaves_37 (M : Mem) (A : Int → Int) : ∀ (n f : Nat) (a : Int), 185 ≤ a → a + n = 192 → n < f → f_X8_leaves_37 f (mR M 21 0 (zvp A a)) (iZ a) = some (mR M 21 0 (uI (zvp A 192) 2 (zvp A 192 2 - 1))) := by
  intro n
  induction n with
  | zero =>
    intro f a a0 ha hf
    obtain ⟨f, rfl⟩ : ∃ g, f = g + 1 := ⟨f - 1, by omega⟩
    obtain rfl : a = 192 := by omega
    simp (disch := omega) only [f_X8_leaves_37, rz_2, mu21_2, ↓reduceIte, ↓nm_s, ↓lk_s, ↓pc_s, z_add, z_sub, z_mul, z_neg, z_le, z_lt, z_eq, z_ix, z_vin, z_rem, zc_0, zc_1, zc_2, zc_3, zc_4, zc_5, zc_6, zc_7, zc_8, zc_9, zc_10, zc_12, zc_20, zc_60, zc_80, zc_108, zc_120, zc_185, zc_192, zc_1344, zc_9999, zc_FAR, zc_NEV, ite_T, ite_F, bd_s, bd2_s, rz_z, toNat_cast, mR_at, mR_ne, mu_mR, il_t, il_f, ilt_t, ilt_f, ieq_t, ieq_f, nlt_t]
  | succ n ih =>
    intro f a a0 ha hf
    obtain ⟨f, rfl⟩ : ∃ g, f = g + 1 := ⟨f - 1, by omega⟩
    rw [← ih f (a + 1) (by omega) (by omega) (by omega)]
    have hz : uI (zvp A a) a 0 = zvp A (a + 1) := by
      funext j
      unfold uI zvp
      by_cases hj : j = a
      · rw [if_pos hj, if_pos (by omega)]
      · rw [if_neg hj]
        by_cases h2 : 185 ≤ j ∧ j < a
        · rw [if_pos h2, if_pos (by omega)]
        · rw [if_neg h2, if_neg (by omega)]
    rw [← hz]
    simp (disch := omega) only [f_X8_leaves_37, ↓reduceIte, ↓nm_s, ↓lk_s, ↓pc_s, z_add, z_sub, z_mul, z_neg, z_le, z_lt, z_eq, z_ix, z_vin, z_rem, zc_0, zc_1, zc_2, zc_3, zc_4, zc_5, zc_6, zc_7, zc_8, zc_9, zc_10, zc_12, zc_20, zc_60, zc_80, zc_108, zc_120, zc_185, zc_192, zc_1344, zc_9999, zc_FAR, zc_NEV, ite_T, ite_F, bd_s, bd2_s, rz_z, toNat_cast, mR_at, mR_ne, mu_mR, il_t, il_f, ilt_t, ilt_f, ieq_t, ieq_f, nlt_t]
theorem g_leaves_5 (M : Mem) (A : Int → Int) {k : Int} (k0 : 0 ≤ k) : ∀ (n f : Nat) (a : Int), 108 + 7 * k ≤ a → a + n = 185 → n < f → f_X8_leaves_5 f (mR M 21 0 (lvp A k a)) (iZ a) = f_X8_leaves_37 FU (mR M 21 0 (lvp A k 185)) (iZ 185) := by
  intro n
  induction n with
  | zero =>
    intro f a a0 ha hf
    obtain ⟨f, rfl⟩ : ∃ g, f = g + 1 := ⟨f - 1, by omega⟩
    obtain rfl : a = 185 := by omega
    simp (disch := omega) only [f_X8_leaves_5, ↓reduceIte, ↓nm_s, ↓lk_s, ↓pc_s, z_add, z_sub, z_mul, z_neg, z_le, z_lt, z_eq, z_ix, z_vin, z_rem, zc_0, zc_1, zc_2, zc_3, zc_4, zc_5, zc_6, zc_7, zc_8, zc_9, zc_10, zc_12, zc_20, zc_60, zc_80, zc_108, zc_120, zc_185, zc_192, zc_1344, zc_9999, zc_FAR, zc_NEV, ite_T, ite_F, bd_s, bd2_s, rz_z, toNat_cast, mR_at, mR_ne, mu_mR, il_t, il_f, ilt_t, ilt_f, ieq_t, ieq_f, nlt_t]
  | succ n ih =>
    intro f a a0 ha hf
    obtain ⟨f, rfl⟩ : ∃ g, f = g + 1 := ⟨f - 1, by omega⟩
    rw [← ih f (a + 1) (by omega) (by omega) (by omega)]
    have hz : uI (lvp A k a) a (lvp A k a (a + 7)) = lvp A k (a + 1) := by
      funext j
      unfold uI lvp
      by_cases hj : j = a
      · subst hj; rw [if_pos rfl, if_neg (by omega : ¬ (108 + 7 * k ≤ j + 7 ∧ j + 7 < j)), if_pos (by omega)]
      · rw [if_neg hj]
        by_cases h2 : 108 + 7 * k ≤ j ∧ j < a
        · rw [if_pos h2, if_pos (by omega)]
        · rw [if_neg h2, if_neg (by omega)]
    rw [← hz]
    simp (disch := omega) only [f_X8_leaves_5, ↓reduceIte, ↓nm_s, ↓lk_s, ↓pc_s, z_add, z_sub, z_mul, z_neg, z_le, z_lt, z_eq, z_ix, z_vin, z_rem, zc_0, zc_1, zc_2, zc_3, zc_4, zc_5, zc_6, zc_7, zc_8, zc_9, zc_10, zc_12, zc_20, zc_60, zc_80, zc_108, zc_120, zc_185, zc_192, zc_1344, zc_9999, zc_FAR, zc_NEV, ite_T, ite_F, bd_s, bd2_s, rz_z, toNat_cast, mR_at, mR_ne, mu_mR, il_t, il_f, ilt_t, ilt_f, ieq_t, ieq_f, nlt_t]
theorem g_leaves (M : Mem) (A : Int → Int) {k : Int} (k0 : 0 ≤ k) (k1 : k < 12) : f_X8_leaves (mR M 21 0 A) (iZ k) = some (mR M 21 0 (tLv A k)) := by
  have h1 : lvp A k (108 + 7 * k) = A := by funext j; unfold lvp; rw [if_neg (by omega)]
  have h2 : zvp (lvp A k 185) 185 = lvp A k 185 := by funext j; unfold zvp; rw [if_neg (by omega)]
  have h3 := g_leaves_5 M A k0 (185 - (108 + 7 * k)).toNat FU (108 + 7 * k) (by omega) (by omega) (by unfold FU; omega)
  have h4 := g_leaves_37 M (lvp A k 185) 7 FU 185 (by omega) (by omega) (by unfold FU; omega)
  rw [h1] at h3
  rw [h2] at h4
  have h5 : uI (zvp (lvp A k 185) 192) 2 (zvp (lvp A k 185) 192 2 - 1) = tLv A k := by
    funext j
    unfold uI tLv
    by_cases hj : j = 2
    · rw [if_pos hj, if_pos hj]
      unfold zvp lvp
      rw [if_neg (by omega), if_neg (by omega)]
    · rw [if_neg hj, if_neg hj]
      unfold zvp lvp
      by_cases h6 : 108 + 7 * k ≤ j ∧ j < 185
      · rw [if_neg (by omega), if_pos h6, if_pos h6]
      · rw [if_neg h6, if_neg h6]
  unfold f_X8_leaves
  rw [pc_s]
  simp only [zc_108, zc_7, z_mul, z_add]
  rw [h3, h4, h5]
theorem g_takeIt {p h : Int} {A : Int → Int} (hO : Ok p h A) (hm : Rm p h) (M : Mem) {d : Int} (hd : i32 d) : f_X8_takeIt (mR M 21 0 A) (iZ d) =
    if sPos A d = -1 then some (iZ (-1), mT (mR M 21 0 A) 1) else if A (108 + 7 * sPos A d + 4) = -1 then some (iZ (-1), mT (mR M 21 0 A) 2) else some (iZ (A (108 + 7 * sPos A d + 3)), mR M 21 0 (tRm A (sPos A d) 6)) := by
  have h1 := g_X8_find hO hm (mR_at M 21 0 A) hd
  have hp := sPos_in hO d
  obtain ⟨o1, o2, o3, o4, o5, o6, o7, o8, o9, o10, o11, ol, ob, op, oc⟩ := hO
  have hpc := op (sPos A d)
  clear ol ob op oc
  by_cases c1 : sPos A d = -1
  · rw [if_pos c1]
    rw [c1] at h1
    simp (disch := omega) only [f_X8_takeIt, ↓bdq h1, mT_s, ↓reduceIte, ↓nm_s, ↓lk_s, ↓pc_s, z_add, z_sub, z_mul, z_neg, z_le, z_lt, z_eq, z_ix, z_vin, z_rem, zc_0, zc_1, zc_2, zc_3, zc_4, zc_5, zc_6, zc_7, zc_8, zc_9, zc_10, zc_12, zc_20, zc_60, zc_80, zc_108, zc_120, zc_185, zc_192, zc_1344, zc_9999, zc_FAR, zc_NEV, ite_T, ite_F, bd_s, bd2_s, rz_z, toNat_cast, mR_at, mR_ne, mu_mR, il_t, il_f, ilt_t, ilt_f, ieq_t, ieq_f, nlt_t]
  · rw [if_neg c1]
    have hpc := hpc (by omega) (by omega)
    unfold pcl at hpc
    have hs : -1 ≤ A (108 + 7 * sPos A d + 4) ∧ A (108 + 7 * sPos A d + 4) ≤ 20 := by omega
    have hp2 : 0 ≤ sPos A d ∧ sPos A d < 12 := by omega
    clear hpc
    have h2 := g_leaves M A hp2.1 hp2.2
    by_cases c2 : A (108 + 7 * sPos A d + 4) = -1
    · rw [if_pos c2]
      simp (disch := omega) only [f_X8_takeIt, ↓bdq h1, mT_s, ↓reduceIte, ↓nm_s, ↓lk_s, ↓pc_s, z_add, z_sub, z_mul, z_neg, z_le, z_lt, z_eq, z_ix, z_vin, z_rem, zc_0, zc_1, zc_2, zc_3, zc_4, zc_5, zc_6, zc_7, zc_8, zc_9, zc_10, zc_12, zc_20, zc_60, zc_80, zc_108, zc_120, zc_185, zc_192, zc_1344, zc_9999, zc_FAR, zc_NEV, ite_T, ite_F, bd_s, bd2_s, rz_z, toNat_cast, mR_at, mR_ne, mu_mR, il_t, il_f, ilt_t, ilt_f, ieq_t, ieq_f, nlt_t]
    · rw [if_neg c2]
      have h6 : tLv A (sPos A d) 6 = A 6 := tLv_lo (by omega) (by omega) (by omega)
      simp (disch := omega) only [f_X8_takeIt, ↓bdq h1, ↓bdq h2, mT_s, rz_6, mu21_6, h6, ↓reduceIte, ↓nm_s, ↓lk_s, ↓pc_s, z_add, z_sub, z_mul, z_neg, z_le, z_lt, z_eq, z_ix, z_vin, z_rem, zc_0, zc_1, zc_2, zc_3, zc_4, zc_5, zc_6, zc_7, zc_8, zc_9, zc_10, zc_12, zc_20, zc_60, zc_80, zc_108, zc_120, zc_185, zc_192, zc_1344, zc_9999, zc_FAR, zc_NEV, ite_T, ite_F, bd_s, bd2_s, rz_z, toNat_cast, mR_at, mR_ne, mu_mR, il_t, il_f, ilt_t, ilt_f, ieq_t, ieq_f, nlt_t]
      rfl
