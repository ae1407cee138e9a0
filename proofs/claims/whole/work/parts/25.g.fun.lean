theorem g_refParcel {p h : Int} {M : Mem} {s : Nat} {A : Int → Int} (hO : Ok p h A) (hC : Cl M s A) {a b w q : Int} (ha : i32 a) (hb : i32 b) (hw : i32 w) (hq : i32 q) : f_X5_refusalOfNewParcel M s (iZ a) (iZ b) (iZ w) (iZ q) = some (iZ (rPo A a b w q)) := by
  have h1 := g_hasPlace hO hC ha
  have h2 := g_hasPlace hO hC hb
  have h3 := g_isBetween M hw (by omega : i32 1) (by omega : i32 9)
  have h4 := g_isBetween M hq (by omega : i32 0) (by omega : i32 20)
  rw [← zc_1, ← zc_9] at h3
  rw [← zc_0, ← zc_20] at h4
  have c2 := hC.2.2.1
  obtain ⟨o1, o2, o3, o4, o5, o6, o7, o8, o9, o10, o11, ol, ob, op, oc⟩ := hO
  clear ol ob op oc
  unfold i32 at *
  unfold bI at *
  unfold rPo
  by_cases e1 : 0 ≤ a ∧ a < A 0
  · rw [if_pos e1] at h1
    by_cases e2 : 0 ≤ b ∧ b < A 0
    · rw [if_pos e2] at h2
      rw [if_neg (by omega)]
      by_cases e3 : a = b
      · rw [if_pos (by omega)]
        simp (disch := omega) only [f_X5_refusalOfNewParcel, ↓bdq h1, ↓bdq h2, ↓reduceIte, ↓nm_s, ↓lk_s, ↓pc_s, z_add, z_sub, z_mul, z_neg, z_le, z_lt, z_eq, z_ix, z_vin, z_rem, zc_0, zc_1, zc_2, zc_3, zc_4, zc_5, zc_6, zc_7, zc_8, zc_9, zc_10, zc_12, zc_20, zc_60, zc_80, zc_108, zc_120, zc_185, zc_192, zc_1344, zc_9999, zc_FAR, zc_NEV, ite_T, ite_F, bd_s, bd2_s, rz_z, toNat_cast, mR_at, mR_ne, mu_mR, il_t, il_f, ilt_t, ilt_f, ieq_t, ieq_f, nlt_t]
      · by_cases e4 : 1 ≤ w ∧ w ≤ 9
        · rw [if_pos e4] at h3
          by_cases e5 : 0 ≤ q ∧ q ≤ 20
          · rw [if_pos e5] at h4
            rw [if_neg (by omega)]
            by_cases e6 : A 2 < 12 <;> simp (disch := omega) only [f_X5_refusalOfNewParcel, ↓bdq h1, ↓bdq h2, ↓bdq h3, ↓bdq h4, c2, e6, not_true, not_false_iff, ↓reduceIte, ↓nm_s, ↓lk_s, ↓pc_s, z_add, z_sub, z_mul, z_neg, z_le, z_lt, z_eq, z_ix, z_vin, z_rem, zc_0, zc_1, zc_2, zc_3, zc_4, zc_5, zc_6, zc_7, zc_8, zc_9, zc_10, zc_12, zc_20, zc_60, zc_80, zc_108, zc_120, zc_185, zc_192, zc_1344, zc_9999, zc_FAR, zc_NEV, ite_T, ite_F, bd_s, bd2_s, rz_z, toNat_cast, mR_at, mR_ne, mu_mR, il_t, il_f, ilt_t, ilt_f, ieq_t, ieq_f, nlt_t]
          · rw [if_neg e5] at h4
            rw [if_pos (by omega)]
            simp (disch := omega) only [f_X5_refusalOfNewParcel, ↓bdq h1, ↓bdq h2, ↓bdq h3, ↓bdq h4, ↓reduceIte, ↓nm_s, ↓lk_s, ↓pc_s, z_add, z_sub, z_mul, z_neg, z_le, z_lt, z_eq, z_ix, z_vin, z_rem, zc_0, zc_1, zc_2, zc_3, zc_4, zc_5, zc_6, zc_7, zc_8, zc_9, zc_10, zc_12, zc_20, zc_60, zc_80, zc_108, zc_120, zc_185, zc_192, zc_1344, zc_9999, zc_FAR, zc_NEV, ite_T, ite_F, bd_s, bd2_s, rz_z, toNat_cast, mR_at, mR_ne, mu_mR, il_t, il_f, ilt_t, ilt_f, ieq_t, ieq_f, nlt_t]
        · rw [if_neg e4] at h3
          rw [if_pos (by omega)]
          simp (disch := omega) only [f_X5_refusalOfNewParcel, ↓bdq h1, ↓bdq h2, ↓bdq h3, ↓reduceIte, ↓nm_s, ↓lk_s, ↓pc_s, z_add, z_sub, z_mul, z_neg, z_le, z_lt, z_eq, z_ix, z_vin, z_rem, zc_0, zc_1, zc_2, zc_3, zc_4, zc_5, zc_6, zc_7, zc_8, zc_9, zc_10, zc_12, zc_20, zc_60, zc_80, zc_108, zc_120, zc_185, zc_192, zc_1344, zc_9999, zc_FAR, zc_NEV, ite_T, ite_F, bd_s, bd2_s, rz_z, toNat_cast, mR_at, mR_ne, mu_mR, il_t, il_f, ilt_t, ilt_f, ieq_t, ieq_f, nlt_t]
    · rw [if_neg e2] at h2
      rw [if_pos (by omega)]
      simp (disch := omega) only [f_X5_refusalOfNewParcel, ↓bdq h1, ↓bdq h2, ↓reduceIte, ↓nm_s, ↓lk_s, ↓pc_s, z_add, z_sub, z_mul, z_neg, z_le, z_lt, z_eq, z_ix, z_vin, z_rem, zc_0, zc_1, zc_2, zc_3, zc_4, zc_5, zc_6, zc_7, zc_8, zc_9, zc_10, zc_12, zc_20, zc_60, zc_80, zc_108, zc_120, zc_185, zc_192, zc_1344, zc_9999, zc_FAR, zc_NEV, ite_T, ite_F, bd_s, bd2_s, rz_z, toNat_cast, mR_at, mR_ne, mu_mR, il_t, il_f, ilt_t, ilt_f, ieq_t, ieq_f, nlt_t]
  · rw [if_neg e1] at h1
    rw [if_pos (by omega)]
    simp (disch := omega) only [f_X5_refusalOfNewParcel, ↓bdq h1, ↓reduceIte, ↓nm_s, ↓lk_s, ↓pc_s, z_add, z_sub, z_mul, z_neg, z_le, z_lt, z_eq, z_ix, z_vin, z_rem, zc_0, zc_1, zc_2, zc_3, zc_4, zc_5, zc_6, zc_7, zc_8, zc_9, zc_10, zc_12, zc_20, zc_60, zc_80, zc_108, zc_120, zc_185, zc_192, zc_1344, zc_9999, zc_FAR, zc_NEV, ite_T, ite_F, bd_s, bd2_s, rz_z, toNat_cast, mR_at, mR_ne, mu_mR, il_t, il_f, ilt_t, ilt_f, ieq_t, ieq_f, nlt_t]
noncomputable def rSe (A : Int → Int) (d l : Int) : Int := if sPos A d = -1 then 4 else if ¬ (0 ≤ l ∧ l < A 1) then 1 else if bC (sMay A (sPos A d) l) = 0 then 3 else 0
noncomputable def rSt (A : Int → Int) (d q : Int) : Int := if sPos A d = -1 then 4 else if ¬ (1 ≤ q ∧ q ≤ 20) then 2 else if ¬ A (108 + 7 * sPos A d + 3) + q ≤ 20 then 3 else 0
noncomputable def rTk (A : Int → Int) (d : Int) : Int := if sPos A d = -1 then 4 else if A (108 + 7 * sPos A d + 4) = -1 then 3 else 0
theorem g_refReturn {p h : Int} {M : Mem} {s : Nat} {A : Int → Int} (hO : Ok p h A) (hm : Rm p h) (hs : s ≤ 10) (hR : Rw M s) (hC : Cl M s A) {d : Int} (hd : i32 d) : f_X5_refusalOfReturn M s (iZ d) = some (iZ (rTk A d)) := by
  have h1 := g_find hO hm hs hR hC hd
  have hp := sPos_in hO d
  have o4 := hO.2.2.2.1
  have o6 := hO.2.2.2.2.2.1
  unfold rTk f_X5_refusalOfReturn
  rw [bdq h1]
  by_cases e1 : sPos A d = -1
  · rw [if_pos e1, if_pos e1]; rfl
  · rw [if_neg e1, if_neg e1]
    have hr := hR.1 (sPos A d) (by omega) (by omega)
    have hpc := hO.2.2.2.2.2.2.2.2.2.2.2.2.2.1 (sPos A d) (by omega) (by omega)
    unfold pcl at hpc
    have p5 := (hC.2.2.2.2.2.2.2.2.2 (sPos A d) (by omega) (by omega)).2.2.2.2.2.1
    have e5 : A (108 + 7 * sPos A d + 4) = -1 ∧ 0 ≤ A (108 + 7 * sPos A d + 5) ∧ A (108 + 7 * sPos A d + 5) < 20 ∨ A (108 + 7 * sPos A d + 4) ≠ -1 ∧ A (108 + 7 * sPos A d + 5) = -1 := by omega
    clear hO hC hpc
    unfold on
    by_cases e2 : A (108 + 7 * sPos A d + 4) = -1 <;> simp (disch := omega) only [f_X3_isUnderWay, p5, ↓reduceIte, ↓nm_s, ↓lk_s, ↓pc_s, z_add, z_sub, z_mul, z_neg, z_le, z_lt, z_eq, z_ix, z_vin, z_rem, zc_0, zc_1, zc_2, zc_3, zc_4, zc_5, zc_6, zc_7, zc_8, zc_9, zc_10, zc_12, zc_20, zc_60, zc_80, zc_108, zc_120, zc_185, zc_192, zc_1344, zc_9999, zc_FAR, zc_NEV, ite_T, ite_F, bd_s, bd2_s, rz_z, toNat_cast, mR_at, mR_ne, mu_mR, il_t, il_f, ilt_t, ilt_f, ieq_t, ieq_f, nlt_t]
theorem g_refStamps {p h : Int} {M : Mem} {s : Nat} {A : Int → Int} (hO : Ok p h A) (hm : Rm p h) (hs : s ≤ 10) (hR : Rw M s) (hC : Cl M s A) {d q : Int} (hd : i32 d) (hq : i32 q) : f_X5_refusalOfStamps M s (iZ d) (iZ q) = some (iZ (rSt A d q)) := by
  have h1 := g_find hO hm hs hR hC hd
  have h3 := g_isBetween M hq (by omega : i32 1) (by omega : i32 20)
  rw [← zc_1, ← zc_20] at h3
  have hp := sPos_in hO d
  have o6 := hO.2.2.2.2.2.1
  unfold bI at h3
  unfold rSt f_X5_refusalOfStamps
  rw [bdq h1]
  by_cases e1 : sPos A d = -1
  · rw [if_pos e1, if_pos e1]; rfl
  · rw [if_neg e1, if_neg e1]
    have hr := hR.1 (sPos A d) (by omega) (by omega)
    have hpc := hO.2.2.2.2.2.2.2.2.2.2.2.2.2.1 (sPos A d) (by omega) (by omega)
    unfold pcl at hpc
    have p2 := (hC.2.2.2.2.2.2.2.2.2 (sPos A d) (by omega) (by omega)).2.2.1
    have e5 : 0 ≤ A (108 + 7 * sPos A d + 3) ∧ A (108 + 7 * sPos A d + 3) ≤ 20 := by omega
    clear hO hC hpc
    unfold i32 at *
    unfold on
    by_cases e4 : 1 ≤ q ∧ q ≤ 20
    · rw [if_pos e4] at h3
      rw [if_neg (by omega)]
      by_cases e2 : A (108 + 7 * sPos A d + 3) + q ≤ 20
      · rw [if_neg (by omega)]
        simp (disch := omega) only [↓bdq h3, p2, ↓reduceIte, ↓nm_s, ↓lk_s, ↓pc_s, z_add, z_sub, z_mul, z_neg, z_le, z_lt, z_eq, z_ix, z_vin, z_rem, zc_0, zc_1, zc_2, zc_3, zc_4, zc_5, zc_6, zc_7, zc_8, zc_9, zc_10, zc_12, zc_20, zc_60, zc_80, zc_108, zc_120, zc_185, zc_192, zc_1344, zc_9999, zc_FAR, zc_NEV, ite_T, ite_F, bd_s, bd2_s, rz_z, toNat_cast, mR_at, mR_ne, mu_mR, il_t, il_f, ilt_t, ilt_f, ieq_t, ieq_f, nlt_t]
      · rw [if_pos e2]
        simp (disch := omega) only [↓bdq h3, p2, ↓reduceIte, ↓nm_s, ↓lk_s, ↓pc_s, z_add, z_sub, z_mul, z_neg, z_le, z_lt, z_eq, z_ix, z_vin, z_rem, zc_0, zc_1, zc_2, zc_3, zc_4, zc_5, zc_6, zc_7, zc_8, zc_9, zc_10, zc_12, zc_20, zc_60, zc_80, zc_108, zc_120, zc_185, zc_192, zc_1344, zc_9999, zc_FAR, zc_NEV, ite_T, ite_F, bd_s, bd2_s, rz_z, toNat_cast, mR_at, mR_ne, mu_mR, il_t, il_f, ilt_t, ilt_f, ieq_t, ieq_f, nlt_t]
    · rw [if_neg e4] at h3
      rw [if_pos e4]
      simp (disch := omega) only [↓bdq h3, ↓reduceIte, ↓nm_s, ↓lk_s, ↓pc_s, z_add, z_sub, z_mul, z_neg, z_le, z_lt, z_eq, z_ix, z_vin, z_rem, zc_0, zc_1, zc_2, zc_3, zc_4, zc_5, zc_6, zc_7, zc_8, zc_9, zc_10, zc_12, zc_20, zc_60, zc_80, zc_108, zc_120, zc_185, zc_192, zc_1344, zc_9999, zc_FAR, zc_NEV, ite_T, ite_F, bd_s, bd2_s, rz_z, toNat_cast, mR_at, mR_ne, mu_mR, il_t, il_f, ilt_t, ilt_f, ieq_t, ieq_f, nlt_t]
