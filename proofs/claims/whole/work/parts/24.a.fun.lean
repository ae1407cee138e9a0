/-! What the reference's calls do to its array. -/
theorem mR_id {M : Mem} {a i : Nat} {A : Int → Int} (h : M a i = rz A) : mR M a i A = M := by
  funext b j
  unfold mR
  split
  · next hb => obtain ⟨rfl, rfl⟩ := hb; exact h.symm
  · rfl
theorem mR_sw (M : Mem) {a b i j : Nat} (A B : Int → Int) (h : a ≠ b) : mR (mR M a i A) b j B = mR (mR M b j B) a i A := by
  funext c l
  unfold mR
  by_cases h1 : c = b ∧ l = j
  · rw [if_pos h1, if_neg (fun h2 => h (h2.1.symm.trans h1.1)), if_pos h1]
  · rw [if_neg h1]
    split
    · rfl
    · first | rfl | rw [if_neg h1]
theorem mu21_0 (M : Mem) (A : Int → Int) (v : Int) : mu (mR M 21 0 A) 21 0 0 (iZ v) = mR M 21 0 (uI A 0 v) := mu_mR M 21 0 A (Int.le_refl 0)
theorem mu21_1 (M : Mem) (A : Int → Int) (v : Int) : mu (mR M 21 0 A) 21 0 1 (iZ v) = mR M 21 0 (uI A 1 v) := mu_mR M 21 0 A (by omega : (0 : Int) ≤ 1)
theorem mu21_2 (M : Mem) (A : Int → Int) (v : Int) : mu (mR M 21 0 A) 21 0 2 (iZ v) = mR M 21 0 (uI A 2 v) := mu_mR M 21 0 A (by omega : (0 : Int) ≤ 2)
theorem mu21_3 (M : Mem) (A : Int → Int) (v : Int) : mu (mR M 21 0 A) 21 0 3 (iZ v) = mR M 21 0 (uI A 3 v) := mu_mR M 21 0 A (by omega : (0 : Int) ≤ 3)
theorem mu21_4 (M : Mem) (A : Int → Int) (v : Int) : mu (mR M 21 0 A) 21 0 4 (iZ v) = mR M 21 0 (uI A 4 v) := mu_mR M 21 0 A (by omega : (0 : Int) ≤ 4)
theorem mu21_5 (M : Mem) (A : Int → Int) (v : Int) : mu (mR M 21 0 A) 21 0 5 (iZ v) = mR M 21 0 (uI A 5 v) := mu_mR M 21 0 A (by omega : (0 : Int) ≤ 5)
theorem mu21_6 (M : Mem) (A : Int → Int) (v : Int) : mu (mR M 21 0 A) 21 0 6 (iZ v) = mR M 21 0 (uI A 6 v) := mu_mR M 21 0 A (by omega : (0 : Int) ≤ 6)
theorem mu21_7 (M : Mem) (A : Int → Int) (v : Int) : mu (mR M 21 0 A) 21 0 7 (iZ v) = mR M 21 0 (uI A 7 v) := mu_mR M 21 0 A (by omega : (0 : Int) ≤ 7)
/-- throwing c -/
def mT (M : Mem) (c : Int) : Mem := mu M 20 0 9 (iZ c)
theorem mT_s (M : Mem) (c : Int) : f_X8_throwing M (iZ c) = some (iZ (-1), mT M c) := by unfold f_X8_throwing; rw [nm_s]; rfl
theorem g_placeIt {p h : Int} {A : Int → Int} (hO : Ok p h A) (M : Mem) : f_X8_placeIt (mR M 21 0 A) = if A 0 < 9 then some (iZ (A 0), mR M 21 0 (tPl A)) else some (iZ (-1), mT (mR M 21 0 A) 1) := by
  have o1 := hO.1
  have o2 := hO.2.1
  by_cases h9 : A 0 < 9
  · rw [if_pos h9]
    simp (disch := omega) only [f_X8_placeIt, rz_0, mu21_0, uI_eq, ↓reduceIte, ↓nm_s, ↓lk_s, ↓pc_s, z_add, z_sub, z_mul, z_neg, z_le, z_lt, z_eq, z_ix, z_vin, z_rem, zc_0, zc_1, zc_2, zc_3, zc_4, zc_5, zc_6, zc_7, zc_8, zc_9, zc_10, zc_12, zc_20, zc_60, zc_80, zc_108, zc_120, zc_185, zc_192, zc_1344, zc_9999, zc_FAR, zc_NEV, ite_T, ite_F, bd_s, bd2_s, rz_z, toNat_cast, mR_at, mR_ne, mu_mR, il_t, il_f, ilt_t, ilt_f, ieq_t, ieq_f, nlt_t]
    rw [show A 0 + 1 - 1 = A 0 by omega]
    rfl
  · rw [if_neg h9]
    simp (disch := omega) only [f_X8_placeIt, rz_0, mT_s, ↓reduceIte, ↓nm_s, ↓lk_s, ↓pc_s, z_add, z_sub, z_mul, z_neg, z_le, z_lt, z_eq, z_ix, z_vin, z_rem, zc_0, zc_1, zc_2, zc_3, zc_4, zc_5, zc_6, zc_7, zc_8, zc_9, zc_10, zc_12, zc_20, zc_60, zc_80, zc_108, zc_120, zc_185, zc_192, zc_1344, zc_9999, zc_FAR, zc_NEV, ite_T, ite_F, bd_s, bd2_s, rz_z, toNat_cast, mR_at, mR_ne, mu_mR, il_t, il_f, ilt_t, ilt_f, ieq_t, ieq_f, nlt_t]
theorem g_linkIt {p h : Int} {A : Int → Int} (hO : Ok p h A) (M : Mem) {a b w q : Int} (ha : i32 a) (hb : i32 b) (hw : i32 w) (hq : i32 q) : f_X8_linkIt (mR M 21 0 A) (iZ a) (iZ b) (iZ w) (iZ q) =
    if ¬ ((0 ≤ a ∧ a < A 0) ∧ (0 ≤ b ∧ b < A 0)) then some (iZ (-1), mT (mR M 21 0 A) 1) else if ¬ (a ≠ b ∧ (1 ≤ w ∧ w ≤ 9) ∧ (0 ≤ q ∧ q ≤ 5)) then some (iZ (-1), mT (mR M 21 0 A) 2) else if ¬ A 1 < 20 then some (iZ (-1), mT (mR M 21 0 A) 3) else some (iZ (A 1), mR M 21 0 (tLk A a b w q)) := by
  have h1 := g_X8_isPlace hO (mR_at M 21 0 A) ha
  have h2 := g_X8_isPlace hO (mR_at M 21 0 A) hb
  have h3 := g_X8_in (mR M 21 0 A) hw (by omega : i32 1) (by omega : i32 9)
  have h4 := g_X8_in (mR M 21 0 A) hq (by omega : i32 0) (by omega : i32 5)
  obtain ⟨o1, o2, o3, o4, o5, o6, o7, o8, o9, o10, o11, ol, ob, op, oc⟩ := hO
  clear ol ob op oc
  unfold i32 at *
  unfold bI at *
  rw [← c64_1, ← c64_9] at h3
  rw [← c64_0, ← c64_5] at h4
  by_cases c1 : 0 ≤ a ∧ a < A 0
  · rw [if_pos c1] at h1
    by_cases c2 : 0 ≤ b ∧ b < A 0
    · rw [if_pos c2] at h2
      rw [if_neg (by omega)]
      by_cases c3 : a = b
      · rw [if_pos (by omega)]
        simp (disch := omega) only [f_X8_linkIt, f_X8_linkIt_16, f_X8_linkIt_52, ↓bdq h1, ↓bdq h2, mT_s, ↓reduceIte, ↓nm_s, ↓lk_s, ↓pc_s, z_add, z_sub, z_mul, z_neg, z_le, z_lt, z_eq, z_ix, z_vin, z_rem, zc_0, zc_1, zc_2, zc_3, zc_4, zc_5, zc_6, zc_7, zc_8, zc_9, zc_10, zc_12, zc_20, zc_60, zc_80, zc_108, zc_120, zc_185, zc_192, zc_1344, zc_9999, zc_FAR, zc_NEV, ite_T, ite_F, bd_s, bd2_s, rz_z, toNat_cast, mR_at, mR_ne, mu_mR, il_t, il_f, ilt_t, ilt_f, ieq_t, ieq_f, nlt_t]
      · by_cases c4 : 1 ≤ w ∧ w ≤ 9
        · rw [if_pos c4] at h3
          by_cases c5 : 0 ≤ q ∧ q ≤ 5
          · rw [if_pos c5] at h4
            rw [if_neg (by omega)]
            by_cases c6 : A 1 < 20
            · rw [if_neg (by omega)]
              simp (disch := omega) only [f_X8_linkIt, f_X8_linkIt_16, f_X8_linkIt_52, ↓bdq h1, ↓bdq h2, ↓bdq h3, ↓bdq h4, mT_s, rz_1, mu21_1, uI_ne, uI_eq, ↓reduceIte, ↓nm_s, ↓lk_s, ↓pc_s, z_add, z_sub, z_mul, z_neg, z_le, z_lt, z_eq, z_ix, z_vin, z_rem, zc_0, zc_1, zc_2, zc_3, zc_4, zc_5, zc_6, zc_7, zc_8, zc_9, zc_10, zc_12, zc_20, zc_60, zc_80, zc_108, zc_120, zc_185, zc_192, zc_1344, zc_9999, zc_FAR, zc_NEV, ite_T, ite_F, bd_s, bd2_s, rz_z, toNat_cast, mR_at, mR_ne, mu_mR, il_t, il_f, ilt_t, ilt_f, ieq_t, ieq_f, nlt_t]
              rw [show A 1 + 1 - 1 = A 1 by omega]
              rfl
            · rw [if_pos (by omega)]
              simp (disch := omega) only [f_X8_linkIt, f_X8_linkIt_16, f_X8_linkIt_52, ↓bdq h1, ↓bdq h2, ↓bdq h3, ↓bdq h4, mT_s, rz_1, ↓reduceIte, ↓nm_s, ↓lk_s, ↓pc_s, z_add, z_sub, z_mul, z_neg, z_le, z_lt, z_eq, z_ix, z_vin, z_rem, zc_0, zc_1, zc_2, zc_3, zc_4, zc_5, zc_6, zc_7, zc_8, zc_9, zc_10, zc_12, zc_20, zc_60, zc_80, zc_108, zc_120, zc_185, zc_192, zc_1344, zc_9999, zc_FAR, zc_NEV, ite_T, ite_F, bd_s, bd2_s, rz_z, toNat_cast, mR_at, mR_ne, mu_mR, il_t, il_f, ilt_t, ilt_f, ieq_t, ieq_f, nlt_t]
          · rw [if_neg c5] at h4
            rw [if_pos (by omega)]
            simp (disch := omega) only [f_X8_linkIt, f_X8_linkIt_16, f_X8_linkIt_52, ↓bdq h1, ↓bdq h2, ↓bdq h3, ↓bdq h4, mT_s, rz_1, ↓reduceIte, ↓nm_s, ↓lk_s, ↓pc_s, z_add, z_sub, z_mul, z_neg, z_le, z_lt, z_eq, z_ix, z_vin, z_rem, zc_0, zc_1, zc_2, zc_3, zc_4, zc_5, zc_6, zc_7, zc_8, zc_9, zc_10, zc_12, zc_20, zc_60, zc_80, zc_108, zc_120, zc_185, zc_192, zc_1344, zc_9999, zc_FAR, zc_NEV, ite_T, ite_F, bd_s, bd2_s, rz_z, toNat_cast, mR_at, mR_ne, mu_mR, il_t, il_f, ilt_t, ilt_f, ieq_t, ieq_f, nlt_t]
        · rw [if_neg c4] at h3
          rw [if_pos (by omega)]
          simp (disch := omega) only [f_X8_linkIt, f_X8_linkIt_16, f_X8_linkIt_52, ↓bdq h1, ↓bdq h2, ↓bdq h3, mT_s, rz_1, ↓reduceIte, ↓nm_s, ↓lk_s, ↓pc_s, z_add, z_sub, z_mul, z_neg, z_le, z_lt, z_eq, z_ix, z_vin, z_rem, zc_0, zc_1, zc_2, zc_3, zc_4, zc_5, zc_6, zc_7, zc_8, zc_9, zc_10, zc_12, zc_20, zc_60, zc_80, zc_108, zc_120, zc_185, zc_192, zc_1344, zc_9999, zc_FAR, zc_NEV, ite_T, ite_F, bd_s, bd2_s, rz_z, toNat_cast, mR_at, mR_ne, mu_mR, il_t, il_f, ilt_t, ilt_f, ieq_t, ieq_f, nlt_t]
    · rw [if_neg c2] at h2
      rw [if_pos (by omega)]
      simp (disch := omega) only [f_X8_linkIt, f_X8_linkIt_16, f_X8_linkIt_52, ↓bdq h1, ↓bdq h2, mT_s, ↓reduceIte, ↓nm_s, ↓lk_s, ↓pc_s, z_add, z_sub, z_mul, z_neg, z_le, z_lt, z_eq, z_ix, z_vin, z_rem, zc_0, zc_1, zc_2, zc_3, zc_4, zc_5, zc_6, zc_7, zc_8, zc_9, zc_10, zc_12, zc_20, zc_60, zc_80, zc_108, zc_120, zc_185, zc_192, zc_1344, zc_9999, zc_FAR, zc_NEV, ite_T, ite_F, bd_s, bd2_s, rz_z, toNat_cast, mR_at, mR_ne, mu_mR, il_t, il_f, ilt_t, ilt_f, ieq_t, ieq_f, nlt_t]
  · rw [if_neg c1] at h1
    rw [if_pos (by omega)]
    simp (disch := omega) only [f_X8_linkIt, f_X8_linkIt_16, f_X8_linkIt_52, ↓bdq h1, mT_s, ↓reduceIte, ↓nm_s, ↓lk_s, ↓pc_s, z_add, z_sub, z_mul, z_neg, z_le, z_lt, z_eq, z_ix, z_vin, z_rem, zc_0, zc_1, zc_2, zc_3, zc_4, zc_5, zc_6, zc_7, zc_8, zc_9, zc_10, zc_12, zc_20, zc_60, zc_80, zc_108, zc_120, zc_185, zc_192, zc_1344, zc_9999, zc_FAR, zc_NEV, ite_T, ite_F, bd_s, bd2_s, rz_z, toNat_cast, mR_at, mR_ne, mu_mR, il_t, il_f, ilt_t, ilt_f, ieq_t, ieq_f, nlt_t]
