/-! Questions: numbers, links. -/
def Gt (n : Int) (fC : Option Int32) (fX : Option (Int32 × Mem)) : Prop := ∃ r M2, fC = some r ∧ fX = some (r, M2) ∧ Rl (n + 1) M2
theorem Qt.mT (M : Mem) (c : Int) : Qt M (mT M c) := fun a i k h => mu_miss _ _ (by omega)
theorem mT_21 (M : Mem) (c : Int) : mT M c 21 0 = M 21 0 := mu_ne _ _ _ (by omega)
theorem mT_9 (M : Mem) (c : Int) : mT M c 20 0 9 = iZ c := mu_hit _ _ _ _ _
theorem mu0_mT (M : Mem) : mu M 20 0 9 (0 : Int32) = mT M 0 := rfl
theorem g_total {M : Mem} {A : Int → Int} (hA : M 21 0 = rz A) {k : Int} (k0 : 0 ≤ k) (k1 : k < 8) : f_X8_total M (iZ k) = some (iZ (A k), mT M 0) := by
  unfold f_X8_total
  rw [nm_s, mu0_mT, if_pos (of_eq_true (z_vin k0 (by omega) (by omega))), z_ix (by omega) (by omega), mT_21, hA, rz_z k0]
theorem q_hour {n : Int} {M : Mem} (n0 : 0 ≤ n) (n1 : n ≤ 512) (hR : Rl n M) : Gt n (f_X7_hour M) (f_X8_hour M) := by
  obtain ⟨A, p, h, hO, hm, hC, hW, hA⟩ := hR.view n0 n1
  refine ⟨iZ (A 4), mT M 0, ?_, ?_, Rl.qt (Qt.mT M 0) hR⟩
  · unfold f_X7_hour; rw [hC.2.2.2.2.1]
  · unfold f_X8_hour; rw [show (4 : Int32) = iZ 4 from rfl, g_total hA (by omega) (by omega), bd2_s]
theorem q_placeCount {n : Int} {M : Mem} (n0 : 0 ≤ n) (n1 : n ≤ 512) (hR : Rl n M) : Gt n (f_X7_placeCount M) (f_X8_placeCount M) := by
  obtain ⟨A, p, h, hO, hm, hC, hW, hA⟩ := hR.view n0 n1
  refine ⟨iZ (A 0), mT M 0, ?_, ?_, Rl.qt (Qt.mT M 0) hR⟩
  · unfold f_X7_placeCount; rw [hC.1]
  · unfold f_X8_placeCount; rw [show (0 : Int32) = iZ 0 from rfl, g_total hA (by omega) (by omega), bd2_s]
theorem q_linkCount {n : Int} {M : Mem} (n0 : 0 ≤ n) (n1 : n ≤ 512) (hR : Rl n M) : Gt n (f_X7_linkCount M) (f_X8_linkCount M) := by
  obtain ⟨A, p, h, hO, hm, hC, hW, hA⟩ := hR.view n0 n1
  refine ⟨iZ (A 1), mT M 0, ?_, ?_, Rl.qt (Qt.mT M 0) hR⟩
  · unfold f_X7_linkCount; rw [hC.2.1]
  · unfold f_X8_linkCount; rw [show (1 : Int32) = iZ 1 from rfl, g_total hA (by omega) (by omega), bd2_s]
theorem q_parcelCount {n : Int} {M : Mem} (n0 : 0 ≤ n) (n1 : n ≤ 512) (hR : Rl n M) : Gt n (f_X7_parcelCount M) (f_X8_parcelCount M) := by
  obtain ⟨A, p, h, hO, hm, hC, hW, hA⟩ := hR.view n0 n1
  refine ⟨iZ (A 2), mT M 0, ?_, ?_, Rl.qt (Qt.mT M 0) hR⟩
  · unfold f_X7_parcelCount; rw [hC.2.2.1]
  · unfold f_X8_parcelCount; rw [show (2 : Int32) = iZ 2 from rfl, g_total hA (by omega) (by omega), bd2_s]
theorem q_postedTotal {n : Int} {M : Mem} (n0 : 0 ≤ n) (n1 : n ≤ 512) (hR : Rl n M) : Gt n (f_X7_postedTotal M) (f_X8_postedTotal M) := by
  obtain ⟨A, p, h, hO, hm, hC, hW, hA⟩ := hR.view n0 n1
  refine ⟨iZ (A 3), mT M 0, ?_, ?_, Rl.qt (Qt.mT M 0) hR⟩
  · unfold f_X7_postedTotal; rw [hC.2.2.2.1]
  · unfold f_X8_postedTotal; rw [show (3 : Int32) = iZ 3 from rfl, g_total hA (by omega) (by omega), bd2_s]
theorem q_deliveredTotal {n : Int} {M : Mem} (n0 : 0 ≤ n) (n1 : n ≤ 512) (hR : Rl n M) : Gt n (f_X7_deliveredTotal M) (f_X8_deliveredTotal M) := by
  obtain ⟨A, p, h, hO, hm, hC, hW, hA⟩ := hR.view n0 n1
  refine ⟨iZ (A 5), mT M 0, ?_, ?_, Rl.qt (Qt.mT M 0) hR⟩
  · unfold f_X7_deliveredTotal; rw [hC.2.2.2.2.2.1]
  · unfold f_X8_deliveredTotal; rw [show (5 : Int32) = iZ 5 from rfl, g_total hA (by omega) (by omega), bd2_s]
theorem q_takenBackTotal {n : Int} {M : Mem} (n0 : 0 ≤ n) (n1 : n ≤ 512) (hR : Rl n M) : Gt n (f_X7_takenBackTotal M) (f_X8_takenBackTotal M) := by
  obtain ⟨A, p, h, hO, hm, hC, hW, hA⟩ := hR.view n0 n1
  refine ⟨iZ (A 6), mT M 0, ?_, ?_, Rl.qt (Qt.mT M 0) hR⟩
  · unfold f_X7_takenBackTotal; rw [hC.2.2.2.2.2.2.1]
  · unfold f_X8_takenBackTotal; rw [show (6 : Int32) = iZ 6 from rfl, g_total hA (by omega) (by omega), bd2_s]
theorem q_usedStamps {n : Int} {M : Mem} (n0 : 0 ≤ n) (n1 : n ≤ 512) (hR : Rl n M) : Gt n (f_X7_usedStamps M) (f_X8_usedStamps M) := by
  obtain ⟨A, p, h, hO, hm, hC, hW, hA⟩ := hR.view n0 n1
  refine ⟨iZ (A 7), mT M 0, ?_, ?_, Rl.qt (Qt.mT M 0) hR⟩
  · unfold f_X7_usedStamps; rw [hC.2.2.2.2.2.2.2.1]
  · unfold f_X8_usedStamps; rw [show (7 : Int32) = iZ 7 from rfl, g_total hA (by omega) (by omega), bd2_s]
theorem q_undoableCount {n : Int} {M : Mem} (hR : Rl n M) : Gt n (f_X7_undoableCount M) (f_X8_undoableCount M) := by
  have hR0 := hR
  obtain ⟨A, S, Bf, o, c, v, hK, hL, hr, hx⟩ := hR
  refine ⟨iZ c, mT M 0, ?_, ?_, Rl.qt (Qt.mT M 0) hR0⟩
  · unfold f_X7_undoableCount; rw [hL.2.2.2.1]
  · unfold f_X8_undoableCount; rw [nm_s, mu0_mT, show mT M 0 20 0 6 = M 20 0 6 from mu_miss _ _ (by omega), hr.2.2.2.1]
/-- the class's checks -/
theorem g_reqIx (M : Mem) {a b : Int} (ha : i32 a) (hb : i32 b) : f_X7_requireIndex M (iZ a) (iZ b) = if 0 ≤ a ∧ a < b then some (.inl (), M) else some (.inr 0, M) := by
  unfold i32 at ha hb
  by_cases c : 0 ≤ a ∧ a < b
  · rw [if_pos c]
    simp (disch := omega) only [f_X7_requireIndex, f_X7_requireIndex_9, ↓reduceIte, ↓nm_s, ↓lk_s, ↓pc_s, z_add, z_sub, z_mul, z_neg, z_le, z_lt, z_eq, z_ix, z_vin, z_rem, zc_0, zc_1, zc_2, zc_3, zc_4, zc_5, zc_6, zc_7, zc_8, zc_9, zc_10, zc_12, zc_20, zc_60, zc_80, zc_108, zc_120, zc_185, zc_192, zc_1344, zc_9999, zc_FAR, zc_NEV, ite_T, ite_F, bd_s, bd2_s, rz_z, toNat_cast, mR_at, mR_ne, mu_mR, il_t, il_f, ilt_t, ilt_f, ieq_t, ieq_f, nlt_t]
  · rw [if_neg c]
    by_cases c1 : a < 0
    · simp (disch := omega) only [f_X7_requireIndex, f_X7_requireIndex_9, ↓reduceIte, ↓nm_s, ↓lk_s, ↓pc_s, z_add, z_sub, z_mul, z_neg, z_le, z_lt, z_eq, z_ix, z_vin, z_rem, zc_0, zc_1, zc_2, zc_3, zc_4, zc_5, zc_6, zc_7, zc_8, zc_9, zc_10, zc_12, zc_20, zc_60, zc_80, zc_108, zc_120, zc_185, zc_192, zc_1344, zc_9999, zc_FAR, zc_NEV, ite_T, ite_F, bd_s, bd2_s, rz_z, toNat_cast, mR_at, mR_ne, mu_mR, il_t, il_f, ilt_t, ilt_f, ieq_t, ieq_f, nlt_t]
    · simp (disch := omega) only [f_X7_requireIndex, f_X7_requireIndex_9, ↓reduceIte, ↓nm_s, ↓lk_s, ↓pc_s, z_add, z_sub, z_mul, z_neg, z_le, z_lt, z_eq, z_ix, z_vin, z_rem, zc_0, zc_1, zc_2, zc_3, zc_4, zc_5, zc_6, zc_7, zc_8, zc_9, zc_10, zc_12, zc_20, zc_60, zc_80, zc_108, zc_120, zc_185, zc_192, zc_1344, zc_9999, zc_FAR, zc_NEV, ite_T, ite_F, bd_s, bd2_s, rz_z, toNat_cast, mR_at, mR_ne, mu_mR, il_t, il_f, ilt_t, ilt_f, ieq_t, ieq_f, nlt_t]
theorem g_reqBe (M : Mem) {a b c : Int} (ha : i32 a) (hb : i32 b) (hc : i32 c) : f_X7_requireBetween M (iZ a) (iZ b) (iZ c) = if b ≤ a ∧ a ≤ c then some (.inl (), M) else some (.inr 1, M) := by
  unfold i32 at ha hb hc
  by_cases e : b ≤ a ∧ a ≤ c
  · rw [if_pos e]
    simp (disch := omega) only [f_X7_requireBetween, f_X7_requireBetween_10, ↓reduceIte, ↓nm_s, ↓lk_s, ↓pc_s, z_add, z_sub, z_mul, z_neg, z_le, z_lt, z_eq, z_ix, z_vin, z_rem, zc_0, zc_1, zc_2, zc_3, zc_4, zc_5, zc_6, zc_7, zc_8, zc_9, zc_10, zc_12, zc_20, zc_60, zc_80, zc_108, zc_120, zc_185, zc_192, zc_1344, zc_9999, zc_FAR, zc_NEV, ite_T, ite_F, bd_s, bd2_s, rz_z, toNat_cast, mR_at, mR_ne, mu_mR, il_t, il_f, ilt_t, ilt_f, ieq_t, ieq_f, nlt_t]
  · rw [if_neg e]
    by_cases c1 : a < b
    · simp (disch := omega) only [f_X7_requireBetween, f_X7_requireBetween_10, ↓reduceIte, ↓nm_s, ↓lk_s, ↓pc_s, z_add, z_sub, z_mul, z_neg, z_le, z_lt, z_eq, z_ix, z_vin, z_rem, zc_0, zc_1, zc_2, zc_3, zc_4, zc_5, zc_6, zc_7, zc_8, zc_9, zc_10, zc_12, zc_20, zc_60, zc_80, zc_108, zc_120, zc_185, zc_192, zc_1344, zc_9999, zc_FAR, zc_NEV, ite_T, ite_F, bd_s, bd2_s, rz_z, toNat_cast, mR_at, mR_ne, mu_mR, il_t, il_f, ilt_t, ilt_f, ieq_t, ieq_f, nlt_t]
    · simp (disch := omega) only [f_X7_requireBetween, f_X7_requireBetween_10, ↓reduceIte, ↓nm_s, ↓lk_s, ↓pc_s, z_add, z_sub, z_mul, z_neg, z_le, z_lt, z_eq, z_ix, z_vin, z_rem, zc_0, zc_1, zc_2, zc_3, zc_4, zc_5, zc_6, zc_7, zc_8, zc_9, zc_10, zc_12, zc_20, zc_60, zc_80, zc_108, zc_120, zc_185, zc_192, zc_1344, zc_9999, zc_FAR, zc_NEV, ite_T, ite_F, bd_s, bd2_s, rz_z, toNat_cast, mR_at, mR_ne, mu_mR, il_t, il_f, ilt_t, ilt_f, ieq_t, ieq_f, nlt_t]
theorem g_reqHr (M : Mem) {a : Int} (ha : i32 a) : f_X7_requireAskedHour M (iZ a) = if 0 ≤ a ∧ a ≤ 9999 then some (.inl (), M) else some (.inr 1, M) := by
  have h1 := g_reqBe M ha (by omega : i32 0) (by omega : i32 9999)
  rw [← zc_0, ← zc_9999] at h1
  unfold f_X7_requireAskedHour
  rw [h1]
  by_cases e : 0 ≤ a ∧ a ≤ 9999
  · rw [if_pos e, bx_l]
  · rw [if_neg e, bx_r]
theorem g_exLink {p h : Int} {M : Mem} {A : Int → Int} (hO : Ok p h A) (hC : Cl M 0 A) {a : Int} (ha : i32 a) : f_X7_existingLink M (iZ a) = if 0 ≤ a ∧ a < A 1 then some (.inl (20 * 0 + a.toNat), M) else some (.inr 0, M) := by
  have o3 := hO.2.2.1
  have o4 := hO.2.2.2.1
  unfold f_X7_existingLink
  rw [hC.2.1, g_reqIx M ha (by omega)]
  by_cases e : 0 ≤ a ∧ a < A 1
  · rw [if_pos e, if_pos e, bx_l, if_pos (of_eq_true (z_vin e.1 (by omega) (by omega))), z_ix (by omega) (by omega)]
  · rw [if_neg e, if_neg e, bx_r]
/-- the reference's questions of a link -/
theorem g_ofLink {p h : Int} {M : Mem} {A : Int → Int} (hO : Ok p h A) (hA : M 21 0 = rz A) {a w : Int} (ha : i32 a) (w0 : 0 ≤ w) (w1 : w ≤ 4) : f_X8_ofLink M (iZ a) (iZ w) = if 0 ≤ a ∧ a < A 1 then some (iZ (A (8 + 5 * a + w)), mT M 0) else some (iZ (-1), mT (mT M 0) 1) := by
  have o4 := hO.2.2.2.1
  have h1 := g_X8_isLink hO (show mT M 0 21 0 = rz A by rw [mT_21]; exact hA) ha
  unfold f_X8_ofLink
  rw [nm_s, mu0_mT, bdq h1]
  by_cases e : 0 ≤ a ∧ a < A 1
  · rw [if_pos e]
    unfold bI
    rw [if_pos e, if_neg (by rw [zc_0, z_eq (by omega) (by omega) (by omega) (by omega)]; omega), lk_s]
    simp (disch := omega) only [mT_21, hA, ↓reduceIte, ↓nm_s, ↓lk_s, ↓pc_s, z_add, z_sub, z_mul, z_neg, z_le, z_lt, z_eq, z_ix, z_vin, z_rem, zc_0, zc_1, zc_2, zc_3, zc_4, zc_5, zc_6, zc_7, zc_8, zc_9, zc_10, zc_12, zc_20, zc_60, zc_80, zc_108, zc_120, zc_185, zc_192, zc_1344, zc_9999, zc_FAR, zc_NEV, ite_T, ite_F, bd_s, bd2_s, rz_z, toNat_cast, mR_at, mR_ne, mu_mR, il_t, il_f, ilt_t, ilt_f, ieq_t, ieq_f, nlt_t]
  · rw [if_neg e]
    unfold bI
    rw [if_neg e, if_pos (by decide), zc_1, mT_s, bd2_s]
theorem isB_z {v : Int} (v0 : 0 ≤ v) (v1 : v ≤ 1) : isB (iZ v) := by
  obtain rfl | rfl : v = 0 ∨ v = 1 := by omega
  · exact .inl rfl
  · exact .inr rfl
theorem gd_link {n : Int} {M : Mem} (n0 : 0 ≤ n) (n1 : n ≤ 512) (hR : Rl n M) (x : Int32) {w : Int} (w0 : 0 ≤ w) (w1 : w ≤ 4) {fL : Option (Int32 × Mem)} {fX : Mem → Option (Int32 × Mem)}
    (h1 : ∀ q r, q < 220 → f_X7_existingLink M x = some (.inl q, M) → M 4 q w.toNat = r → fL = some (iZ 0, mu M 33 0 0 r)) (h2 : f_X7_existingLink M x = some (.inr 0, M) → fL = some (iZ 1, M)) (h3 : ∀ M1 r M2, f_X8_ofLink M1 x (iZ w) = some (r, M2) → fX M1 = some (r, M2)) : Gd n fL fX := by
  obtain ⟨a, rfl, ha⟩ := z_mk x
  obtain ⟨A, p, h, hO, hm, hC, hW, hA⟩ := hR.view n0 n1
  have o4 := hO.2.2.2.1
  have e1 := g_exLink hO hC ha
  by_cases e : 0 ≤ a ∧ a < A 1
  · rw [if_pos e] at e1
    have cl := hC.2.2.2.2.2.2.2.2.1 a e.1 e.2
    have hw : M 4 (20 * 0 + a.toNat) w.toNat = iZ (A (8 + 5 * a + w)) := by
      obtain rfl | rfl | rfl | rfl | rfl : w = 0 ∨ w = 1 ∨ w = 2 ∨ w = 3 ∨ w = 4 := by omega
      · rw [Int.add_zero]; exact cl.1
      · exact cl.2.1
      · exact cl.2.2.1
      · exact cl.2.2.2.1
      · exact cl.2.2.2.2
    refine gd_ok hR (h1 _ _ (by omega) e1 hw) (QC.rfl' M) ⟨_, h3 _ _ _ (by rw [g_ofLink hO (show mu M 33 0 0 _ 21 0 = rz A by rw [mu_ne _ _ _ (by omega)]; exact hA) ha w0 w1, if_pos e]), mT_9 _ _, QR.mT _ _⟩
  · rw [if_neg e] at e1
    exact gd_no hR (e := 1) (by omega) (by omega) (h2 e1) (QC.rfl' M) ⟨_, _, h3 _ _ _ (by rw [g_ofLink hO hA ha w0 w1, if_neg e]), mT_9 _ _, (QR.mT _ _).tr (QR.mT _ _)⟩
theorem q_linkFrom {n : Int} {M : Mem} (n0 : 0 ≤ n) (n1 : n ≤ 512) (hR : Rl n M) (x : Int32) : Gd n (f_L_linkFrom M x) (fun M1 => f_X8_linkFrom M1 x) := by
  refine gd_link n0 n1 hR x (w := 0) (by omega) (by omega) (fun q r hq e hr => ?_) (fun e => ?_) (fun M1 r M2 e => ?_)
  · unfold f_L_linkFrom f_X7_linkFrom
    rw [e, bx_l, if_pos hq, bxh_l, nm_s]
    rw [← hr]; rfl
  · unfold f_L_linkFrom f_X7_linkFrom
    rw [e, bx_r, bxh_r]; rfl
  · unfold f_X8_linkFrom; rw [zc_0, e, bd2_s]
theorem q_linkTo {n : Int} {M : Mem} (n0 : 0 ≤ n) (n1 : n ≤ 512) (hR : Rl n M) (x : Int32) : Gd n (f_L_linkTo M x) (fun M1 => f_X8_linkTo M1 x) := by
  refine gd_link n0 n1 hR x (w := 1) (by omega) (by omega) (fun q r hq e hr => ?_) (fun e => ?_) (fun M1 r M2 e => ?_)
  · unfold f_L_linkTo f_X7_linkTo
    rw [e, bx_l, if_pos hq, bxh_l, nm_s]
    rw [← hr]; rfl
  · unfold f_L_linkTo f_X7_linkTo
    rw [e, bx_r, bxh_r]; rfl
  · unfold f_X8_linkTo; rw [zc_1, e, bd2_s]
theorem q_travelTime {n : Int} {M : Mem} (n0 : 0 ≤ n) (n1 : n ≤ 512) (hR : Rl n M) (x : Int32) : Gd n (f_L_travelTime M x) (fun M1 => f_X8_travelTime M1 x) := by
  refine gd_link n0 n1 hR x (w := 2) (by omega) (by omega) (fun q r hq e hr => ?_) (fun e => ?_) (fun M1 r M2 e => ?_)
  · unfold f_L_travelTime f_X7_travelTime
    rw [e, bx_l, if_pos hq, bxh_l, nm_s]
    rw [← hr]; rfl
  · unfold f_L_travelTime f_X7_travelTime
    rw [e, bx_r, bxh_r]; rfl
  · unfold f_X8_travelTime; rw [zc_2, e, bd2_s]
theorem l15_0 (M : Mem) : f_L_isBlocked_15 M (0 : Int64) = some (iZ 0, mu M 33 0 0 (iZ 0)) := by unfold f_L_isBlocked_15; rw [if_pos (by decide), nm_s]; rfl
theorem l15_1 (M : Mem) : f_L_isBlocked_15 M (1 : Int64) = some (iZ 0, mu M 33 0 0 (iZ 1)) := by unfold f_L_isBlocked_15; rw [if_pos (by decide), nm_s]; rfl
theorem q_isBlocked {n : Int} {M : Mem} (n0 : 0 ≤ n) (n1 : n ≤ 512) (hR : Rl n M) (x : Int32) : GdB n (f_L_isBlocked M x) (fun M1 => f_X8_isBlocked M1 x) := by
  obtain ⟨a, rfl, ha⟩ := z_mk x
  obtain ⟨A, p, h, hO, hm, hC, hW, hA⟩ := hR.view n0 n1
  have o4 := hO.2.2.2.1
  have e1 := g_exLink hO hC ha
  by_cases e : 0 ≤ a ∧ a < A 1
  · rw [if_pos e] at e1
    have cl := (hC.2.2.2.2.2.2.2.2.1 a e.1 e.2).2.2.2.2
    have hk := hO.2.2.2.2.2.2.2.2.2.2.2.1 a e.1 e.2
    unfold lnk at hk
    have hb : A (8 + 5 * a + 4) = 0 ∨ A (8 + 5 * a + 4) = 1 := by omega
    refine gdb_ok hR (M1 := M) hb ?_ (QC.rfl' M) ⟨mT (mu M 33 0 0 (iZ (A (8 + 5 * a + 4)))) 0, ?_, mT_9 _ _, QR.mT _ _⟩
    · unfold f_L_isBlocked f_X7_isBlocked
      rw [e1, bx_l, if_pos (by omega), cl, if_pos (isB_z (by omega) (by omega)), bxh_l]
      obtain h0 | h0 := hb
      · rw [h0, if_pos (by decide)]; exact l15_0 M
      · rw [h0, if_neg (by decide)]; exact l15_1 M
    · show f_X8_isBlocked _ _ = _
      unfold f_X8_isBlocked
      rw [zc_4, g_ofLink hO (show mu M 33 0 0 _ 21 0 = rz A by rw [mu_ne _ _ _ (by omega)]; exact hA) ha (by omega) (by omega), if_pos e, bd2_s]
      obtain h0 | h0 := hb
      · rw [h0, if_neg (by decide)]; rfl
      · rw [h0, if_pos (by decide)]; rfl
  · rw [if_neg e] at e1
    refine gdb_no hR (M1 := M) (e := 1) (by omega) (by omega) ?_ (QC.rfl' M) ⟨0, mT (mT M 0) 1, ?_, mT_9 _ _, (QR.mT _ _).tr (QR.mT _ _)⟩
    · unfold f_L_isBlocked f_X7_isBlocked
      rw [e1, bx_r, bxh_r]; rfl
    · show f_X8_isBlocked _ _ = _
      unfold f_X8_isBlocked
      rw [zc_4, g_ofLink hO hA ha (by omega) (by omega), if_neg e, bd2_s, if_neg (by decide)]; rfl
