/-! Why the class refuses. -/
def rLk (A : Int → Int) (a b w q : Int) : Int := if ¬ ((0 ≤ a ∧ a < A 0) ∧ (0 ≤ b ∧ b < A 0)) then 1 else if ¬ (a ≠ b ∧ (1 ≤ w ∧ w ≤ 9) ∧ (0 ≤ q ∧ q ≤ 5)) then 2 else if ¬ A 1 < 20 then 3 else 0
def rBl (A : Int → Int) (l v : Int) : Int := if ¬ (0 ≤ l ∧ l < A 1) then 1 else if A (8 + 5 * l + 4) = v then 3 else 0
def rPo (A : Int → Int) (a b w q : Int) : Int := if ¬ ((0 ≤ a ∧ a < A 0) ∧ (0 ≤ b ∧ b < A 0)) then 1 else if ¬ (a ≠ b ∧ (1 ≤ w ∧ w ≤ 9) ∧ (0 ≤ q ∧ q ≤ 20)) then 2 else if ¬ A 2 < 12 then 3 else 0
theorem g_refLink {p h : Int} {M : Mem} {s : Nat} {A : Int → Int} (hO : Ok p h A) (hC : Cl M s A) {a b w q : Int} (ha : i32 a) (hb : i32 b) (hw : i32 w) (hq : i32 q) : f_X5_refusalOfNewLink M s (iZ a) (iZ b) (iZ w) (iZ q) = some (iZ (rLk A a b w q)) := by
  have h1 := g_hasPlace hO hC ha
  have h2 := g_hasPlace hO hC hb
  have h3 := g_isBetween M hw (by omega : i32 1) (by omega : i32 9)
  have h4 := g_isBetween M hq (by omega : i32 0) (by omega : i32 5)
  rw [← zc_1, ← zc_9] at h3
  rw [← zc_0, ← zc_5] at h4
  have c1 := hC.2.1
  obtain ⟨o1, o2, o3, o4, o5, o6, o7, o8, o9, o10, o11, ol, ob, op, oc⟩ := hO
  clear ol ob op oc
  unfold i32 at *
  unfold bI at *
  unfold rLk
  by_cases e1 : 0 ≤ a ∧ a < A 0
  · rw [if_pos e1] at h1
    by_cases e2 : 0 ≤ b ∧ b < A 0
    · rw [if_pos e2] at h2
      rw [if_neg (by omega)]
      by_cases e3 : a = b
      · rw [if_pos (by omega)]
        simp (disch := omega) only [f_X5_refusalOfNewLink, ↓bdq h1, ↓bdq h2, ↓reduceIte, ↓nm_s, ↓lk_s, ↓pc_s, z_add, z_sub, z_mul, z_neg, z_le, z_lt, z_eq, z_ix, z_vin, z_rem, zc_0, zc_1, zc_2, zc_3, zc_4, zc_5, zc_6, zc_7, zc_8, zc_9, zc_10, zc_12, zc_20, zc_60, zc_80, zc_108, zc_120, zc_185, zc_192, zc_1344, zc_9999, zc_FAR, zc_NEV, ite_T, ite_F, bd_s, bd2_s, rz_z, toNat_cast, mR_at, mR_ne, mu_mR, il_t, il_f, ilt_t, ilt_f, ieq_t, ieq_f, nlt_t]
      · by_cases e4 : 1 ≤ w ∧ w ≤ 9
        · rw [if_pos e4] at h3
          by_cases e5 : 0 ≤ q ∧ q ≤ 5
          · rw [if_pos e5] at h4
            rw [if_neg (by omega)]
            by_cases e6 : A 1 < 20 <;> simp (disch := omega) only [f_X5_refusalOfNewLink, ↓bdq h1, ↓bdq h2, ↓bdq h3, ↓bdq h4, c1, e6, not_true, not_false_iff, ↓reduceIte, ↓nm_s, ↓lk_s, ↓pc_s, z_add, z_sub, z_mul, z_neg, z_le, z_lt, z_eq, z_ix, z_vin, z_rem, zc_0, zc_1, zc_2, zc_3, zc_4, zc_5, zc_6, zc_7, zc_8, zc_9, zc_10, zc_12, zc_20, zc_60, zc_80, zc_108, zc_120, zc_185, zc_192, zc_1344, zc_9999, zc_FAR, zc_NEV, ite_T, ite_F, bd_s, bd2_s, rz_z, toNat_cast, mR_at, mR_ne, mu_mR, il_t, il_f, ilt_t, ilt_f, ieq_t, ieq_f, nlt_t]
          · rw [if_neg e5] at h4
            rw [if_pos (by omega)]
            simp (disch := omega) only [f_X5_refusalOfNewLink, ↓bdq h1, ↓bdq h2, ↓bdq h3, ↓bdq h4, ↓reduceIte, ↓nm_s, ↓lk_s, ↓pc_s, z_add, z_sub, z_mul, z_neg, z_le, z_lt, z_eq, z_ix, z_vin, z_rem, zc_0, zc_1, zc_2, zc_3, zc_4, zc_5, zc_6, zc_7, zc_8, zc_9, zc_10, zc_12, zc_20, zc_60, zc_80, zc_108, zc_120, zc_185, zc_192, zc_1344, zc_9999, zc_FAR, zc_NEV, ite_T, ite_F, bd_s, bd2_s, rz_z, toNat_cast, mR_at, mR_ne, mu_mR, il_t, il_f, ilt_t, ilt_f, ieq_t, ieq_f, nlt_t]
        · rw [if_neg e4] at h3
          rw [if_pos (by omega)]
          simp (disch := omega) only [f_X5_refusalOfNewLink, ↓bdq h1, ↓bdq h2, ↓bdq h3, ↓reduceIte, ↓nm_s, ↓lk_s, ↓pc_s, z_add, z_sub, z_mul, z_neg, z_le, z_lt, z_eq, z_ix, z_vin, z_rem, zc_0, zc_1, zc_2, zc_3, zc_4, zc_5, zc_6, zc_7, zc_8, zc_9, zc_10, zc_12, zc_20, zc_60, zc_80, zc_108, zc_120, zc_185, zc_192, zc_1344, zc_9999, zc_FAR, zc_NEV, ite_T, ite_F, bd_s, bd2_s, rz_z, toNat_cast, mR_at, mR_ne, mu_mR, il_t, il_f, ilt_t, ilt_f, ieq_t, ieq_f, nlt_t]
    · rw [if_neg e2] at h2
      rw [if_pos (by omega)]
      simp (disch := omega) only [f_X5_refusalOfNewLink, ↓bdq h1, ↓bdq h2, ↓reduceIte, ↓nm_s, ↓lk_s, ↓pc_s, z_add, z_sub, z_mul, z_neg, z_le, z_lt, z_eq, z_ix, z_vin, z_rem, zc_0, zc_1, zc_2, zc_3, zc_4, zc_5, zc_6, zc_7, zc_8, zc_9, zc_10, zc_12, zc_20, zc_60, zc_80, zc_108, zc_120, zc_185, zc_192, zc_1344, zc_9999, zc_FAR, zc_NEV, ite_T, ite_F, bd_s, bd2_s, rz_z, toNat_cast, mR_at, mR_ne, mu_mR, il_t, il_f, ilt_t, ilt_f, ieq_t, ieq_f, nlt_t]
  · rw [if_neg e1] at h1
    rw [if_pos (by omega)]
    simp (disch := omega) only [f_X5_refusalOfNewLink, ↓bdq h1, ↓reduceIte, ↓nm_s, ↓lk_s, ↓pc_s, z_add, z_sub, z_mul, z_neg, z_le, z_lt, z_eq, z_ix, z_vin, z_rem, zc_0, zc_1, zc_2, zc_3, zc_4, zc_5, zc_6, zc_7, zc_8, zc_9, zc_10, zc_12, zc_20, zc_60, zc_80, zc_108, zc_120, zc_185, zc_192, zc_1344, zc_9999, zc_FAR, zc_NEV, ite_T, ite_F, bd_s, bd2_s, rz_z, toNat_cast, mR_at, mR_ne, mu_mR, il_t, il_f, ilt_t, ilt_f, ieq_t, ieq_f, nlt_t]
theorem g_refBlock {p h : Int} {M : Mem} {s : Nat} {A : Int → Int} (hO : Ok p h A) (hC : Cl M s A) {l v : Int} (hl : i32 l) (v0 : 0 ≤ v) (v1 : v ≤ 1) : f_X5_refusalOfBlocking M s (iZ l) (iZ v) = some (iZ (rBl A l v)) := by
  have h1 := g_hasLink hO hC hl
  have o4 := hO.2.2.2.1
  have ol := hO.2.2.2.2.2.2.2.2.2.2.2.1 l
  have cl := hC.2.2.2.2.2.2.2.2.1 l
  unfold bI at h1
  unfold rBl
  clear hO hC
  by_cases e1 : 0 ≤ l ∧ l < A 1
  · rw [if_pos e1] at h1
    rw [if_neg (by omega)]
    have hk := ol e1.1 e1.2
    unfold lnk at hk
    have hk4 : 0 ≤ A (8 + 5 * l + 4) ∧ A (8 + 5 * l + 4) ≤ 1 := by omega
    have c4 := (cl e1.1 e1.2).2.2.2.2
    clear ol cl hk
    by_cases e2 : A (8 + 5 * l + 4) = v <;> simp (disch := omega) only [f_X5_refusalOfBlocking, ↓bdq h1, c4, ↓reduceIte, ↓nm_s, ↓lk_s, ↓pc_s, z_add, z_sub, z_mul, z_neg, z_le, z_lt, z_eq, z_ix, z_vin, z_rem, zc_0, zc_1, zc_2, zc_3, zc_4, zc_5, zc_6, zc_7, zc_8, zc_9, zc_10, zc_12, zc_20, zc_60, zc_80, zc_108, zc_120, zc_185, zc_192, zc_1344, zc_9999, zc_FAR, zc_NEV, ite_T, ite_F, bd_s, bd2_s, rz_z, toNat_cast, mR_at, mR_ne, mu_mR, il_t, il_f, ilt_t, ilt_f, ieq_t, ieq_f, nlt_t]
  · rw [if_neg e1] at h1
    rw [if_pos e1]
    simp (disch := omega) only [f_X5_refusalOfBlocking, ↓bdq h1, ↓reduceIte, ↓nm_s, ↓lk_s, ↓pc_s, z_add, z_sub, z_mul, z_neg, z_le, z_lt, z_eq, z_ix, z_vin, z_rem, zc_0, zc_1, zc_2, zc_3, zc_4, zc_5, zc_6, zc_7, zc_8, zc_9, zc_10, zc_12, zc_20, zc_60, zc_80, zc_108, zc_120, zc_185, zc_192, zc_1344, zc_9999, zc_FAR, zc_NEV, ite_T, ite_F, bd_s, bd2_s, rz_z, toNat_cast, mR_at, mR_ne, mu_mR, il_t, il_f, ilt_t, ilt_f, ieq_t, ieq_f, nlt_t]
