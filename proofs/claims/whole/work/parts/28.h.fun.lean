/-! Questions of forecasts. -/
theorem mW21 {M : Mem} {A : Int → Int} (D S : Int → Int) (hA : M 21 0 = rz A) : mW M D S 21 0 = rz A := by rw [mW_ne _ _ _ (by omega)]; exact hA
theorem mR10_21 {M : Mem} {A : Int → Int} (D : Int → Int) (hA : M 21 0 = rz A) : mR M 10 0 D 21 0 = rz A := by rw [mR_ne _ _ (by omega)]; exact hA
theorem mR27_9 (M : Mem) (D : Int → Int) {c : Int} (h : M 20 0 9 = iZ c) : mR M 27 0 D 20 0 9 = iZ c := by rw [mR_ne _ _ (by omega)]; exact h
theorem sFc_in {p h : Int} {A : Int → Int} (hO : Ok p h A) (hm : Rm p h) {k : Int} (k0 : 0 ≤ k) (k1 : k < A 2) : 0 ≤ sFc A k ∧ sFc A k ≤ 1000000 := by
  have h1 := sAt_in hO k0 k1
  have h2 := sRdy_in hO k0 k1
  have hk := pcl_of hO k0 k1
  have o2 := hO.2.1
  unfold pcl at hk
  unfold Rm at hm
  exact eT_in hO h1.1 h1.2 h2.1 (by omega) (by omega) (by omega)
theorem g_fc26 {M : Mem} (h9 : M 20 0 9 = iZ 0) {e : Int} (e0 : 0 ≤ e) (e1 : e ≤ 1000000) : f_X8_forecast_26 M (iZ e) = if e = 1000000 then some (iZ (-1), mT M 1) else some (iZ e, M) := by
  unfold f_X8_forecast_26
  by_cases c : e = 1000000
  · rw [if_pos c, c, if_pos (by decide), zc_1, mT_s, bd2_s]
  · rw [if_neg c, if_neg (by rw [zc_FAR]; exact ne_z (by omega) (by omega) c)]
theorem q_forecast {n : Int} {M : Mem} (n0 : 0 ≤ n) (n1 : n ≤ 512) (hR : Rl n M) (x : Int32) : Gd n (f_L_forecast M x) (fun M1 => f_X8_forecast M1 x) := by
  obtain ⟨a, rfl, ha⟩ := z_mk x
  obtain ⟨A, p, h, hO, hm, hC, hW, hA⟩ := hR.view n0 n1
  have o6 := hO.2.2.2.2.2.1
  have hp := sPos_in hO a
  have e1 := g_exParcel hO hm.lo hW hC ha
  by_cases e : sPos A a = -1
  · rw [if_pos e] at e1
    refine gd_no hR (M1 := M) (e := 1) (by omega) (by omega) ?_ (QC.rfl' M) ⟨iZ (-1), mT (mT M 0) 1, ?_, mT_9 _ _, (QR.mT _ _).tr (QR.mT _ _)⟩
    · unfold f_L_forecast f_X7_forecast
      rw [e1, bx_r, bxh_r]; rfl
    · show f_X8_forecast _ _ = _
      unfold f_X8_forecast
      rw [nm_s, mu0_mT, bdq (g_X8_find hO hm.lo (mT21 0 hA) ha), e, if_pos (by decide), zc_FAR, g_fc26 (mT_9 _ _) (by omega) (by omega), if_pos (by decide)]
  · rw [if_neg e] at e1
    have hr := hW.1 (sPos A a) (by omega) (by omega)
    have k0 : 0 ≤ sPos A a := by omega
    have k1 : sPos A a < A 2 := by omega
    obtain ⟨D, S, e4⟩ := g_forecastOf hO hm.lo hW hC k0 k1
    have hE := sFc_in hO hm.lo k0 k1
    have e5 := g_exHour (mW M D S) hE.1 hE.2
    have hn : ¬ (iZ (sPos A a) = (-1 : Int32)) := by rw [zc_m1]; exact ne_z (by omega) (by omega) e
    by_cases c : sFc A (sPos A a) = 1000000
    · rw [if_pos c] at e5
      have hA2 := mT21 0 (mW21 D S hA)
      obtain ⟨D2, e6⟩ := g_X8_forecastOf hO hm.lo hA2 k0 k1
      refine gd_no hR (M1 := mW M D S) (e := 1) (by omega) (by omega) ?_ (QC.mW M D S) ⟨iZ (-1), mT (mR (mT (mW M D S) 0) 27 0 D2) 1, ?_, mT_9 _ _, ((QR.mT _ _).tr (QR.mR27 _ _)).tr (QR.mT _ _)⟩
      · unfold f_L_forecast f_X7_forecast
        rw [e1, bx_l, if_pos (by omega), e4, bd2_s, e5, bx_r, bxh_r]; rfl
      · show f_X8_forecast _ _ = _
        unfold f_X8_forecast
        rw [nm_s, mu0_mT, bdq (g_X8_find hO hm.lo hA2 ha), if_neg hn, e6, bd2_s, g_fc26 (mR27_9 _ _ (mT_9 _ _)) hE.1 hE.2, if_pos c]
    · rw [if_neg c] at e5
      have hA2 := mT21 0 (mu33 (iZ (sFc A (sPos A a))) (mW21 D S hA))
      obtain ⟨D2, e6⟩ := g_X8_forecastOf hO hm.lo hA2 k0 k1
      refine gd_ok hR (M1 := mW M D S) (r := iZ (sFc A (sPos A a))) ?_ (QC.mW M D S) ⟨mR (mT (mu (mW M D S) 33 0 0 (iZ (sFc A (sPos A a)))) 0) 27 0 D2, ?_, mR27_9 _ _ (mT_9 _ _), (QR.mT _ _).tr (QR.mR27 _ _)⟩
      · unfold f_L_forecast f_X7_forecast
        rw [e1, bx_l, if_pos (by omega), e4, bd2_s, e5, bx_l, bxh_l, nm_s]; rfl
      · show f_X8_forecast _ _ = _
        unfold f_X8_forecast
        rw [nm_s, mu0_mT, bdq (g_X8_find hO hm.lo hA2 ha), if_neg hn, e6, bd2_s, g_fc26 (mR27_9 _ _ (mT_9 _ _)) hE.1 hE.2, if_neg c]
theorem g_nl50_t (M : Mem) : f_X8_nextLink_50 M (iZ (-1)) = some (iZ (-1), mT M 1) := by
  unfold f_X8_nextLink_50
  rw [if_pos (by decide), zc_1, mT_s, bd2_s]
theorem g_nl50_f (M : Mem) {e : Int} (e0 : 0 ≤ e) (e1 : e ≤ 20) : f_X8_nextLink_50 M (iZ e) = some (iZ e, M) := by
  unfold f_X8_nextLink_50
  rw [if_neg (by rw [zc_m1]; exact ne_z (by omega) (by omega) (by omega))]
theorem g_nl35 (M : Mem) (a : Int32) : f_X8_nextLink_35 M a = some (iZ (-1), mT M 1) := by
  unfold f_X8_nextLink_35 f_X8_nextLink_36
  rw [if_pos (by decide)]
  exact g_nl50_t M
theorem q_nextLink {n : Int} {M : Mem} (n0 : 0 ≤ n) (n1 : n ≤ 512) (hR : Rl n M) (x : Int32) : Gd n (f_L_nextLink M x) (fun M1 => f_X8_nextLink M1 x) := by
  obtain ⟨a, rfl, ha⟩ := z_mk x
  obtain ⟨A, p, h, hO, hm, hC, hW, hA⟩ := hR.view n0 n1
  have o2 := hO.2.1
  have o4 := hO.2.2.2.1
  have o6 := hO.2.2.2.2.2.1
  have hp := sPos_in hO a
  have e1 := g_waitingParcel hO hm.lo hW hC ha
  by_cases e : sPos A a = -1
  · rw [if_pos (.inl e)] at e1
    refine gd_no hR (M1 := M) (e := 1) (by omega) (by omega) ?_ (QC.rfl' M) ⟨iZ (-1), mT (mT M 0) 1, ?_, mT_9 _ _, (QR.mT _ _).tr (QR.mT _ _)⟩
    · unfold f_L_nextLink f_X7_nextLink
      rw [e1, bx_r, bxh_r]; rfl
    · show f_X8_nextLink _ _ = _
      unfold f_X8_nextLink
      rw [nm_s, mu0_mT, bdq (g_X8_find hO hm.lo (mT21 0 hA) ha), e, if_pos (by decide)]
      exact g_nl35 _ _
  · have hr := hW.1 (sPos A a) (by omega) (by omega)
    have k0 : 0 ≤ sPos A a := by omega
    have k1 : sPos A a < A 2 := by omega
    have hk := pcl_of hO k0 k1
    have hk4 : -1 ≤ A (108 + 7 * sPos A a + 4) ∧ A (108 + 7 * sPos A a + 4) ≤ 9 := by unfold pcl at hk; omega
    have hn : ¬ (iZ (sPos A a) = (-1 : Int32)) := by rw [zc_m1]; exact ne_z (by omega) (by omega) e
    have hpl : ∀ (M1 : Mem), M1 21 0 = rz A → (if vin ((108 : Int32) + (7 : Int32) * iZ (sPos A a) + (4 : Int32)) 192 then (if (M1 21 0 (ix ((108 : Int32) + (7 : Int32) * iZ (sPos A a) + (4 : Int32)))) = (-1 : Int32) then f_X8_nextLink_35 M1 (iZ (sPos A a)) else f_X8_nextLink_36 M1 (iZ (sPos A a)) (1 : Int32)) else none) = if A (108 + 7 * sPos A a + 4) = -1 then f_X8_nextLink_35 M1 (iZ (sPos A a)) else f_X8_nextLink_36 M1 (iZ (sPos A a)) (iZ 1) := fun M1 h1 => by
      clear hk hO hC hW
      by_cases c : A (108 + 7 * sPos A a + 4) = -1
      · rw [if_pos c]
        simp (disch := omega) only [h1, zc_m1, ↓reduceIte, ↓nm_s, ↓lk_s, ↓pc_s, z_add, z_sub, z_mul, z_neg, z_le, z_lt, z_eq, z_ix, z_vin, z_rem, zc_0, zc_1, zc_2, zc_3, zc_4, zc_5, zc_6, zc_7, zc_8, zc_9, zc_10, zc_12, zc_20, zc_60, zc_80, zc_108, zc_120, zc_185, zc_192, zc_1344, zc_9999, zc_FAR, zc_NEV, ite_T, ite_F, bd_s, bd2_s, rz_z, toNat_cast, mR_at, mR_ne, mu_mR, il_t, il_f, ilt_t, ilt_f, ieq_t, ieq_f, nlt_t]
      · rw [if_neg c]
        simp (disch := omega) only [h1, zc_m1, ↓reduceIte, ↓nm_s, ↓lk_s, ↓pc_s, z_add, z_sub, z_mul, z_neg, z_le, z_lt, z_eq, z_ix, z_vin, z_rem, zc_0, zc_1, zc_2, zc_3, zc_4, zc_5, zc_6, zc_7, zc_8, zc_9, zc_10, zc_12, zc_20, zc_60, zc_80, zc_108, zc_120, zc_185, zc_192, zc_1344, zc_9999, zc_FAR, zc_NEV, ite_T, ite_F, bd_s, bd2_s, rz_z, toNat_cast, mR_at, mR_ne, mu_mR, il_t, il_f, ilt_t, ilt_f, ieq_t, ieq_f, nlt_t]
    by_cases c : A (108 + 7 * sPos A a + 4) = -1
    · rw [if_pos (.inr c)] at e1
      refine gd_no hR (M1 := M) (e := 1) (by omega) (by omega) ?_ (QC.rfl' M) ⟨iZ (-1), mT (mT M 0) 1, ?_, mT_9 _ _, (QR.mT _ _).tr (QR.mT _ _)⟩
      · unfold f_L_nextLink f_X7_nextLink
        rw [e1, bx_r, bxh_r]; rfl
      · show f_X8_nextLink _ _ = _
        unfold f_X8_nextLink
        rw [nm_s, mu0_mT, bdq (g_X8_find hO hm.lo (mT21 0 hA) ha), if_neg hn, pc_s, hpl _ (mT21 0 hA), if_pos c]
        exact g_nl35 _ _
    · rw [if_neg (by omega)] at e1
      obtain ⟨D, S, e4⟩ := g_nextLinkOf hO hm.lo hW hC k0 k1 c
      have hN := sNext_in hO (sPos A a)
      by_cases c5 : sNext A (sPos A a) = -1
      · have hA2 := mT21 0 (mW21 D S hA)
        obtain ⟨D2, e6⟩ := g_X8_next hO hm.lo hA2 k0 k1 c
        refine gd_no hR (M1 := mW M D S) (e := 1) (by omega) (by omega) ?_ (QC.mW M D S) ⟨iZ (-1), mT (mR (mT (mW M D S) 0) 27 0 D2) 1, ?_, mT_9 _ _, ((QR.mT _ _).tr (QR.mR27 _ _)).tr (QR.mT _ _)⟩
        · unfold f_L_nextLink f_X7_nextLink
          rw [e1, bx_l, if_pos (by omega), e4, bd2_s, c5, if_pos (by decide), bxh_r]; rfl
        · show f_X8_nextLink _ _ = _
          unfold f_X8_nextLink
          rw [nm_s, mu0_mT, bdq (g_X8_find hO hm.lo hA2 ha), if_neg hn, pc_s, hpl _ hA2, if_neg c]
          unfold f_X8_nextLink_36
          rw [if_neg n10, e6, bd2_s, c5]
          exact g_nl50_t _
      · have hA2 := mT21 0 (mu33 (iZ (sNext A (sPos A a))) (mW21 D S hA))
        obtain ⟨D2, e6⟩ := g_X8_next hO hm.lo hA2 k0 k1 c
        refine gd_ok hR (M1 := mW M D S) (r := iZ (sNext A (sPos A a))) ?_ (QC.mW M D S) ⟨mR (mT (mu (mW M D S) 33 0 0 (iZ (sNext A (sPos A a)))) 0) 27 0 D2, ?_, mR27_9 _ _ (mT_9 _ _), (QR.mT _ _).tr (QR.mR27 _ _)⟩
        · unfold f_L_nextLink f_X7_nextLink
          rw [e1, bx_l, if_pos (by omega), e4, bd2_s, if_neg (by rw [zc_m1]; exact ne_z (by omega) (by omega) c5), bxh_l, nm_s]; rfl
        · show f_X8_nextLink _ _ = _
          unfold f_X8_nextLink
          rw [nm_s, mu0_mT, bdq (g_X8_find hO hm.lo hA2 ha), if_neg hn, pc_s, hpl _ hA2, if_neg c]
          unfold f_X8_nextLink_36
          rw [if_neg n10, e6, bd2_s]
          exact g_nl50_f _ (by omega) (by omega)
theorem l16c_0 (M : Mem) : f_L_canSend_16 M (0 : Int64) = some (iZ 0, mu M 33 0 0 (iZ 0)) := by unfold f_L_canSend_16; rw [if_pos (by decide), nm_s]; rfl
theorem l16c_1 (M : Mem) : f_L_canSend_16 M (1 : Int64) = some (iZ 0, mu M 33 0 0 (iZ 1)) := by unfold f_L_canSend_16; rw [if_pos (by decide), nm_s]; rfl
theorem g_cs39 {M : Mem} (a1 a2 : Int32) {c : Int} (c1 : 1 ≤ c) (c9 : c ≤ 9) (h : M 20 0 9 = iZ c) : f_X8_canSend_39 M a1 a2 = some (iZ 0, M) := by
  unfold f_X8_canSend_39
  rw [h, if_neg (by rw [zc_0]; exact ne_z (by omega) (by omega) (by omega))]; rfl
theorem q_canSend {n : Int} {M : Mem} (n0 : 0 ≤ n) (n1 : n ≤ 512) (hR : Rl n M) (x y : Int32) : GdB n (f_L_canSend M x y) (fun M1 => f_X8_canSend M1 x y) := by
  obtain ⟨a, rfl, ha⟩ := z_mk x
  obtain ⟨b, rfl, hb⟩ := z_mk y
  obtain ⟨A, p, h, hO, hm, hC, hW, hA⟩ := hR.view n0 n1
  have o4 := hO.2.2.2.1
  have o6 := hO.2.2.2.2.2.1
  have hp := sPos_in hO a
  have e0 := g_refusalOf hO hm.lo (by omega) hW hC (k := 5) (a := a) (b := b) (c := 0) (d := 0) (by omega) (by omega) ha hb (by omega) (by omega)
  have e1 : f_X5_refusalOf M 0 (5 : Int32) (iZ a) (iZ b) (0 : Int32) (0 : Int32) = some (iZ (rfC A 5 a b 0 0)) := e0
  clear e0
  rw [rf_5] at e1
  unfold rSe at e1
  by_cases e : sPos A a = -1
  · rw [if_pos e] at e1
    refine gdb_no hR (M1 := M) (e := 1) (by omega) (by omega) ?_ (QC.rfl' M) ⟨0, mT (mT M 0) 1, ?_, mT_9 _ _, (QR.mT _ _).tr (QR.mT _ _)⟩
    · unfold f_L_canSend f_X7_canSend
      rw [bdq e1, if_neg (by decide), g_throwFor M (by omega) (by omega), bx_r, bxh_r]; rfl
    · show f_X8_canSend _ _ _ = _
      unfold f_X8_canSend
      rw [nm_s, mu0_mT, bdq (g_X8_find hO hm.lo (mT21 0 hA) ha), e, if_pos (by decide), zc_1, mT_s, bd2_s]
      exact g_cs39 _ _ (c := 1) (by omega) (by omega) (mT_9 _ _)
  · rw [if_neg e] at e1
    have hn : ¬ (iZ (sPos A a) = (-1 : Int32)) := by rw [zc_m1]; exact ne_z (by omega) (by omega) e
    have k0 : 0 ≤ sPos A a := by omega
    have k1 : sPos A a < A 2 := by omega
    by_cases c : 0 ≤ b ∧ b < A 1
    · rw [if_neg (not_not_intro c)] at e1
      by_cases c5 : sMay A (sPos A a) b
      · rw [bC_t c5, if_neg (by omega)] at e1
        have hA2 := mT21 0 (mu33 (iZ 1) hA)
        refine gdb_ok hR (M1 := M) (b := 1) (by omega) ?_ (QC.rfl' M) ⟨mT (mu M 33 0 0 (iZ 1)) 0, ?_, mT_9 _ _, QR.mT _ _⟩
        · unfold f_L_canSend f_X7_canSend
          rw [bdq e1, if_neg (by decide), g_throwFor0, bx_l, bxh_l, if_neg (by decide)]
          exact l16c_1 M
        · show f_X8_canSend _ _ _ = _
          unfold f_X8_canSend f_X8_canSend_39
          rw [nm_s, mu0_mT, bdq (g_X8_find hO hm.lo hA2 ha), if_neg hn, bdq (g_X8_isLink hO hA2 hb), bI_t c, if_neg n10, mT_9, if_pos (by decide), bdq (g_X8_maySend hO hm.lo hA2 k0 k1 c.1 c.2), bC_t c5, if_neg n10]; rfl
      · rw [bC_f c5, if_pos (by decide)] at e1
        have hA2 := mT21 0 (mu33 (iZ 0) hA)
        refine gdb_ok hR (M1 := M) (b := 0) (by omega) ?_ (QC.rfl' M) ⟨mT (mu M 33 0 0 (iZ 0)) 0, ?_, mT_9 _ _, QR.mT _ _⟩
        · unfold f_L_canSend f_X7_canSend
          rw [bdq e1, if_pos (by decide), bxh_l, if_pos (by decide)]
          exact l16c_0 M
        · show f_X8_canSend _ _ _ = _
          unfold f_X8_canSend f_X8_canSend_39
          rw [nm_s, mu0_mT, bdq (g_X8_find hO hm.lo hA2 ha), if_neg hn, bdq (g_X8_isLink hO hA2 hb), bI_t c, if_neg n10, mT_9, if_pos (by decide), bdq (g_X8_maySend hO hm.lo hA2 k0 k1 c.1 c.2), bC_f c5, if_pos (by decide)]; rfl
    · rw [if_pos c] at e1
      refine gdb_no hR (M1 := M) (e := 2) (by omega) (by omega) ?_ (QC.rfl' M) ⟨0, mT (mT M 0) 2, ?_, mT_9 _ _, (QR.mT _ _).tr (QR.mT _ _)⟩
      · unfold f_L_canSend f_X7_canSend
        rw [bdq e1, if_neg (by decide), g_throwFor M (by omega) (by omega), bx_r, bxh_r]; rfl
      · show f_X8_canSend _ _ _ = _
        unfold f_X8_canSend
        rw [nm_s, mu0_mT, bdq (g_X8_find hO hm.lo (mT21 0 hA) ha), if_neg hn, bdq (g_X8_isLink hO (mT21 0 hA) hb), bI_f c, if_pos (by decide), zc_2, mT_s, bd2_s]
        exact g_cs39 _ _ (c := 2) (by omega) (by omega) (mT_9 _ _)
theorem g_max0 {s t : Int} (s0 : 0 ≤ s) (s1 : s ≤ 8) (t0 : 0 ≤ t) (t1 : t ≤ 20) : (if (0 : Int32) < (iZ s - iZ t) then (iZ s - iZ t) else (0 : Int32)) = iZ (if t < s then s - t else 0) := by
  by_cases c : t < s
  · simp (disch := omega) only [↓reduceIte, ↓nm_s, ↓lk_s, ↓pc_s, z_add, z_sub, z_mul, z_neg, z_le, z_lt, z_eq, z_ix, z_vin, z_rem, zc_0, zc_1, zc_2, zc_3, zc_4, zc_5, zc_6, zc_7, zc_8, zc_9, zc_10, zc_12, zc_20, zc_60, zc_80, zc_108, zc_120, zc_185, zc_192, zc_1344, zc_9999, zc_FAR, zc_NEV, ite_T, ite_F, bd_s, bd2_s, rz_z, toNat_cast, mR_at, mR_ne, mu_mR, il_t, il_f, ilt_t, ilt_f, ieq_t, ieq_f, nlt_t]
  · simp (disch := omega) only [↓reduceIte, ↓nm_s, ↓lk_s, ↓pc_s, z_add, z_sub, z_mul, z_neg, z_le, z_lt, z_eq, z_ix, z_vin, z_rem, zc_0, zc_1, zc_2, zc_3, zc_4, zc_5, zc_6, zc_7, zc_8, zc_9, zc_10, zc_12, zc_20, zc_60, zc_80, zc_108, zc_120, zc_185, zc_192, zc_1344, zc_9999, zc_FAR, zc_NEV, ite_T, ite_F, bd_s, bd2_s, rz_z, toNat_cast, mR_at, mR_ne, mu_mR, il_t, il_f, ilt_t, ilt_f, ieq_t, ieq_f, nlt_t]
theorem q_stampsMissing {n : Int} {M : Mem} (n0 : 0 ≤ n) (n1 : n ≤ 512) (hR : Rl n M) (x : Int32) : Gd n (f_L_stampsMissing M x) (fun M1 => f_X8_stampsMissing M1 x) := by
  obtain ⟨a, rfl, ha⟩ := z_mk x
  obtain ⟨A, p, h, hO, hm, hC, hW, hA⟩ := hR.view n0 n1
  have o2 := hO.2.1
  have o6 := hO.2.2.2.2.2.1
  have hp := sPos_in hO a
  have e1 := g_exParcel hO hm.lo hW hC ha
  by_cases e : sPos A a = -1
  · rw [if_pos e] at e1
    refine gd_no hR (M1 := M) (e := 1) (by omega) (by omega) ?_ (QC.rfl' M) ⟨iZ (-1), mT (mT M 0) 1, ?_, mT_9 _ _, (QR.mT _ _).tr (QR.mT _ _)⟩
    · unfold f_L_stampsMissing f_X7_stampsMissing
      rw [e1, bx_r, bxh_r]; rfl
    · show f_X8_stampsMissing _ _ = _
      unfold f_X8_stampsMissing f_X8_stampsMissing_41
      rw [nm_s, mu0_mT, bdq (g_X8_find hO hm.lo (mT21 0 hA) ha), e, if_pos (by decide), if_neg (by decide), zc_1, mT_s, bd2_s]
  · rw [if_neg e] at e1
    have hr := hW.1 (sPos A a) (by omega) (by omega)
    have k0 : 0 ≤ sPos A a := by omega
    have k1 : sPos A a < A 2 := by omega
    have cl := cl_of hC k0 k1
    have hk := pcl_of hO k0 k1
    have hsa := sAt_in hO k0 k1
    have hd : 0 ≤ A (108 + 7 * sPos A a + 1) ∧ A (108 + 7 * sPos A a + 1) < 9 := by unfold pcl at hk; omega
    have hst : 0 ≤ A (108 + 7 * sPos A a + 3) ∧ A (108 + 7 * sPos A a + 3) ≤ 20 := by unfold pcl at hk; omega
    have hn : ¬ (iZ (sPos A a) = (-1 : Int32)) := by rw [zc_m1]; exact ne_z (by omega) (by omega) e
    obtain ⟨D, e4⟩ := g_stepsBetween hO hC hsa.1 hsa.2 hd.1 hd.2
    have hE := eS_le hO hsa.1 hsa.2 hd.1 hd.2
    have e5 := g_exSteps (mR M 10 0 D) (e := eS A (sAt A (sPos A a)) (A (108 + 7 * sPos A a + 1))) (by omega) (by omega)
    have hgo : ∀ (M1 : Mem), M1 21 0 = rz A → ∃ D2, f_X8_stampsMissing M1 (iZ a) = f_X8_stampsMissing_41 (mR (mT M1 0) 27 0 D2) (iZ (sPos A a)) (iZ (eS A (sAt A (sPos A a)) (A (108 + 7 * sPos A a + 1)))) := fun M1 h1 => by
      have hA2 := mT21 0 h1
      obtain ⟨D2, e6⟩ := g_X8_fewest hO hA2 hsa.1 hsa.2 hd.1 hd.2
      refine ⟨D2, ?_⟩
      unfold f_X8_stampsMissing
      rw [nm_s, mu0_mT, bdq (g_X8_find hO hm.lo hA2 ha), if_neg hn, bdq (g_X8_placeOf hO hA2 k0 k1), pc_s]
      clear hO hC hW hk cl hE e5
      simp (disch := omega) only [hA2, e6, ↓reduceIte, ↓nm_s, ↓lk_s, ↓pc_s, z_add, z_sub, z_mul, z_neg, z_le, z_lt, z_eq, z_ix, z_vin, z_rem, zc_0, zc_1, zc_2, zc_3, zc_4, zc_5, zc_6, zc_7, zc_8, zc_9, zc_10, zc_12, zc_20, zc_60, zc_80, zc_108, zc_120, zc_185, zc_192, zc_1344, zc_9999, zc_FAR, zc_NEV, ite_T, ite_F, bd_s, bd2_s, rz_z, toNat_cast, mR_at, mR_ne, mu_mR, il_t, il_f, ilt_t, ilt_f, ieq_t, ieq_f, nlt_t]
    by_cases c : eS A (sAt A (sPos A a)) (A (108 + 7 * sPos A a + 1)) = 1000000
    · rw [if_pos c] at e5
      obtain ⟨D2, e6⟩ := hgo (mR M 10 0 D) (mR10_21 D hA)
      refine gd_no hR (M1 := mR M 10 0 D) (e := 1) (by omega) (by omega) ?_ (QC.mR10 M D) ⟨iZ (-1), mT (mR (mT (mR M 10 0 D) 0) 27 0 D2) 1, ?_, mT_9 _ _, ((QR.mT _ _).tr (QR.mR27 _ _)).tr (QR.mT _ _)⟩
      · unfold f_L_stampsMissing f_X7_stampsMissing
        rw [e1, bx_l, if_pos (by omega), cl.2.2.2.2.1, cl.2.2.2.1, e4, bd2_s, e5, bx_r, bxh_r]; rfl
      · show f_X8_stampsMissing _ _ = _
        rw [e6, c]
        unfold f_X8_stampsMissing_41
        rw [if_neg (by decide), zc_1, mT_s, bd2_s]
    · rw [if_neg c] at e5
      refine gd_ok hR (M1 := mR M 10 0 D) (r := iZ (if A (108 + 7 * sPos A a + 3) < eS A (sAt A (sPos A a)) (A (108 + 7 * sPos A a + 1)) then eS A (sAt A (sPos A a)) (A (108 + 7 * sPos A a + 1)) - A (108 + 7 * sPos A a + 3) else 0)) ?_ (QC.mR10 M D) ?_
      · unfold f_L_stampsMissing f_X7_stampsMissing
        rw [e1, bx_l, if_pos (by omega), cl.2.2.2.2.1, cl.2.2.2.1, e4, bd2_s, e5, bx_l, show mR M 10 0 D 6 (ix (M 5 0 (sPos A a).toNat)) 2 = M 6 (ix (M 5 0 (sPos A a).toNat)) 2 by rw [mR_ne _ _ (by omega)], cl.2.2.1, g_max0 (by omega) (by omega) hst.1 hst.2, bxh_l, nm_s]; rfl
      · obtain ⟨D2, e6⟩ := hgo (mu (mR M 10 0 D) 33 0 0 (iZ (if A (108 + 7 * sPos A a + 3) < eS A (sAt A (sPos A a)) (A (108 + 7 * sPos A a + 1)) then eS A (sAt A (sPos A a)) (A (108 + 7 * sPos A a + 1)) - A (108 + 7 * sPos A a + 3) else 0))) (mu33 _ (mR10_21 D hA))
        refine ⟨mR (mT (mu (mR M 10 0 D) 33 0 0 _) 0) 27 0 D2, ?_, mR27_9 _ _ (mT_9 _ _), (QR.mT _ _).tr (QR.mR27 _ _)⟩
        show f_X8_stampsMissing _ _ = _
        rw [e6]
        have hA3 : mR (mT (mu (mR M 10 0 D) 33 0 0 (iZ (if A (108 + 7 * sPos A a + 3) < eS A (sAt A (sPos A a)) (A (108 + 7 * sPos A a + 1)) then eS A (sAt A (sPos A a)) (A (108 + 7 * sPos A a + 1)) - A (108 + 7 * sPos A a + 3) else 0))) 0) 27 0 D2 21 0 = rz A := by rw [mR_ne _ _ (by omega)]; exact mT21 0 (mu33 _ (mR10_21 D hA))
        unfold f_X8_stampsMissing_41
        rw [if_pos (by rw [zc_FAR, z_lt (by omega) (by omega) (by omega) (by omega)]; omega), pc_s, if_pos (by rw [zc_108, zc_7, zc_3, z_mul, z_add, z_add]; exact of_eq_true (z_vin (by omega) (by omega) (by omega))), hA3, zc_108, zc_7, zc_3, z_mul, z_add, z_add, z_ix (by omega) (by omega), rz_z (by omega), g_max0 (by omega) (by omega) hst.1 hst.2]
