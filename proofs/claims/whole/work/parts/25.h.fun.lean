theorem g_refSend {p h : Int} {M : Mem} {s : Nat} {A : Int → Int} (hO : Ok p h A) (hm : Rm p h) (hs : s ≤ 10) (hR : Rw M s) (hC : Cl M s A) {d l : Int} (hd : i32 d) (hl : i32 l) : f_X5_refusalOfSending M s (iZ d) (iZ l) = some (iZ (rSe A d l)) := by
  have h1 := g_find hO hm hs hR hC hd
  have h2 := g_hasLink hO hC hl
  have hp := sPos_in hO d
  have o4 := hO.2.2.2.1
  have o6 := hO.2.2.2.2.2.1
  unfold bI at h2
  unfold rSe f_X5_refusalOfSending
  rw [bdq h1]
  by_cases e1 : sPos A d = -1
  · rw [if_pos e1, if_pos e1]; rfl
  · rw [if_neg e1, if_neg e1]
    have hr := hR.1 (sPos A d) (by omega) (by omega)
    have hpc := hO.2.2.2.2.2.2.2.2.2.2.2.2.2.1 (sPos A d) (by omega) (by omega)
    unfold pcl at hpc
    obtain ⟨p0, p1, p2, p3, p4, p5, p6⟩ := hC.2.2.2.2.2.2.2.2.2 (sPos A d) (by omega) (by omega)
    have e5 : A (108 + 7 * sPos A d + 4) = -1 ∧ 0 ≤ A (108 + 7 * sPos A d + 5) ∧ A (108 + 7 * sPos A d + 5) < 20 ∨ A (108 + 7 * sPos A d + 4) ≠ -1 ∧ A (108 + 7 * sPos A d + 5) = -1 := by omega
    have e6 : 0 ≤ A (108 + 7 * sPos A d + 3) ∧ A (108 + 7 * sPos A d + 3) ≤ 20 := by omega
    unfold on
    by_cases e2 : 0 ≤ l ∧ l < A 1
    · rw [if_pos e2] at h2
      rw [if_neg (by omega)]
      have h3 := g_canStart hO hm hR hC (k := sPos A d) (by omega) (by omega) e2.1 e2.2
      have h4 := g_hasRoom hO hm hs hR hC (k := sPos A d) (by omega) (by omega) e2.1 e2.2
      have hsa : A (108 + 7 * sPos A d + 4) ≠ -1 → sAt A (sPos A d) = A (108 + 7 * sPos A d + 4) := fun hh => by unfold sAt; rw [if_neg hh]
      clear hO hC hpc
      unfold bI at h3 h4
      unfold i32 at *
      by_cases m1 : A (108 + 7 * sPos A d + 4) = -1
      · rw [bC_f (fun hc => hc.1 m1), if_pos rfl]
        simp (disch := omega) only [f_X3_isUnderWay, f_X5_refusalOfSending_61, f_X5_refusalOfSending_62, ↓bdq h2, p5, ↓reduceIte, ↓nm_s, ↓lk_s, ↓pc_s, z_add, z_sub, z_mul, z_neg, z_le, z_lt, z_eq, z_ix, z_vin, z_rem, zc_0, zc_1, zc_2, zc_3, zc_4, zc_5, zc_6, zc_7, zc_8, zc_9, zc_10, zc_12, zc_20, zc_60, zc_80, zc_108, zc_120, zc_185, zc_192, zc_1344, zc_9999, zc_FAR, zc_NEV, ite_T, ite_F, bd_s, bd2_s, rz_z, toNat_cast, mR_at, mR_ne, mu_mR, il_t, il_f, ilt_t, ilt_f, ieq_t, ieq_f, nlt_t]
      · have hsa := hsa m1
        by_cases m2 : 0 < A (108 + 7 * sPos A d + 3)
        · by_cases m3 : A (8 + 5 * l) = sAt A (sPos A d) ∧ sOpen A l (A 4) = 1
          · rw [if_pos m3] at h3
            by_cases m4 : sLoad A l + A (108 + 7 * sPos A d + 2) ≤ 10
            · rw [if_pos m4] at h4
              rw [bC_t ⟨m1, by omega, m2, m3.2, m4⟩, if_neg (by omega)]
              simp (disch := omega) only [f_X3_isUnderWay, f_X5_refusalOfSending_61, f_X5_refusalOfSending_62, ↓bdq h2, p2, p5, ↓bdq h3, ↓bdq h4, ↓reduceIte, ↓nm_s, ↓lk_s, ↓pc_s, z_add, z_sub, z_mul, z_neg, z_le, z_lt, z_eq, z_ix, z_vin, z_rem, zc_0, zc_1, zc_2, zc_3, zc_4, zc_5, zc_6, zc_7, zc_8, zc_9, zc_10, zc_12, zc_20, zc_60, zc_80, zc_108, zc_120, zc_185, zc_192, zc_1344, zc_9999, zc_FAR, zc_NEV, ite_T, ite_F, bd_s, bd2_s, rz_z, toNat_cast, mR_at, mR_ne, mu_mR, il_t, il_f, ilt_t, ilt_f, ieq_t, ieq_f, nlt_t]
            · rw [if_neg m4] at h4
              rw [bC_f (fun hc => m4 hc.2.2.2.2), if_pos rfl]
              simp (disch := omega) only [f_X3_isUnderWay, f_X5_refusalOfSending_61, f_X5_refusalOfSending_62, ↓bdq h2, p2, p5, ↓bdq h3, ↓bdq h4, ↓reduceIte, ↓nm_s, ↓lk_s, ↓pc_s, z_add, z_sub, z_mul, z_neg, z_le, z_lt, z_eq, z_ix, z_vin, z_rem, zc_0, zc_1, zc_2, zc_3, zc_4, zc_5, zc_6, zc_7, zc_8, zc_9, zc_10, zc_12, zc_20, zc_60, zc_80, zc_108, zc_120, zc_185, zc_192, zc_1344, zc_9999, zc_FAR, zc_NEV, ite_T, ite_F, bd_s, bd2_s, rz_z, toNat_cast, mR_at, mR_ne, mu_mR, il_t, il_f, ilt_t, ilt_f, ieq_t, ieq_f, nlt_t]
          · rw [if_neg m3] at h3
            rw [bC_f (fun hc => m3 ⟨by have := hc.2.1; omega, hc.2.2.2.1⟩), if_pos rfl]
            simp (disch := omega) only [f_X3_isUnderWay, f_X5_refusalOfSending_61, f_X5_refusalOfSending_62, ↓bdq h2, p2, p5, ↓bdq h3, ↓reduceIte, ↓nm_s, ↓lk_s, ↓pc_s, z_add, z_sub, z_mul, z_neg, z_le, z_lt, z_eq, z_ix, z_vin, z_rem, zc_0, zc_1, zc_2, zc_3, zc_4, zc_5, zc_6, zc_7, zc_8, zc_9, zc_10, zc_12, zc_20, zc_60, zc_80, zc_108, zc_120, zc_185, zc_192, zc_1344, zc_9999, zc_FAR, zc_NEV, ite_T, ite_F, bd_s, bd2_s, rz_z, toNat_cast, mR_at, mR_ne, mu_mR, il_t, il_f, ilt_t, ilt_f, ieq_t, ieq_f, nlt_t]
        · rw [bC_f (fun hc => m2 hc.2.2.1), if_pos rfl]
          simp (disch := omega) only [f_X3_isUnderWay, f_X5_refusalOfSending_61, f_X5_refusalOfSending_62, ↓bdq h2, p2, p5, ↓reduceIte, ↓nm_s, ↓lk_s, ↓pc_s, z_add, z_sub, z_mul, z_neg, z_le, z_lt, z_eq, z_ix, z_vin, z_rem, zc_0, zc_1, zc_2, zc_3, zc_4, zc_5, zc_6, zc_7, zc_8, zc_9, zc_10, zc_12, zc_20, zc_60, zc_80, zc_108, zc_120, zc_185, zc_192, zc_1344, zc_9999, zc_FAR, zc_NEV, ite_T, ite_F, bd_s, bd2_s, rz_z, toNat_cast, mR_at, mR_ne, mu_mR, il_t, il_f, ilt_t, ilt_f, ieq_t, ieq_f, nlt_t]
    · rw [if_neg e2] at h2
      rw [if_pos e2]
      clear hO hC hpc
      simp (disch := omega) only [↓bdq h2, ↓reduceIte, ↓nm_s, ↓lk_s, ↓pc_s, z_add, z_sub, z_mul, z_neg, z_le, z_lt, z_eq, z_ix, z_vin, z_rem, zc_0, zc_1, zc_2, zc_3, zc_4, zc_5, zc_6, zc_7, zc_8, zc_9, zc_10, zc_12, zc_20, zc_60, zc_80, zc_108, zc_120, zc_185, zc_192, zc_1344, zc_9999, zc_FAR, zc_NEV, ite_T, ite_F, bd_s, bd2_s, rz_z, toNat_cast, mR_at, mR_ne, mu_mR, il_t, il_f, ilt_t, ilt_f, ieq_t, ieq_f, nlt_t]
