/-! Questions of ways. -/
theorem g_exHour (M : Mem) {e : Int} (e0 : 0 ≤ e) (e1 : e ≤ 1000000) : f_X7_existingHour M (iZ (nv e)) = if e = 1000000 then some (.inr 3, M) else some (.inl (iZ e), M) := by
  unfold f_X7_existingHour nv
  by_cases c : e = 1000000
  · rw [if_pos c, if_pos c, if_pos (by decide)]
  · rw [if_neg c, if_neg c, if_neg (by rw [zc_NEV]; exact ne_z (by omega) (by omega) (by omega))]
theorem g_exSteps (M : Mem) {e : Int} (e0 : 0 ≤ e) (e1 : e ≤ 1000000) : f_X7_existingSteps M (iZ (sv e)) = if e = 1000000 then some (.inr 3, M) else some (.inl (iZ e), M) := by
  unfold f_X7_existingSteps sv
  by_cases c : e = 1000000
  · rw [if_pos c, if_pos c, if_pos (by decide)]
  · rw [if_neg c, if_neg c, if_neg (by rw [zc_m1]; exact ne_z (by omega) (by omega) (by omega))]
theorem q_earliestArrival {n : Int} {M : Mem} (n0 : 0 ≤ n) (n1 : n ≤ 512) (hR : Rl n M) (x y z : Int32) : Gd n (f_L_earliestArrival M x y z) (fun M1 => f_X8_earliestArrival M1 x y z) := by
  obtain ⟨a, rfl, ha⟩ := z_mk x
  obtain ⟨b, rfl, hb⟩ := z_mk y
  obtain ⟨t, rfl, ht⟩ := z_mk z
  obtain ⟨A, p, h, hO, hm, hC, hW, hA⟩ := hR.view n0 n1
  have o1 := hO.1
  have o2 := hO.2.1
  have e1 := g_reqIx M ha (b := A 0) (by omega)
  have e2 := g_reqIx M hb (b := A 0) (by omega)
  have e3 := g_reqHr M ht
  have hin := fun M1 : Mem => g_X8_in M1 ht (by omega : i32 0) (by omega : i32 9999)
  by_cases c1 : 0 ≤ a ∧ a < A 0
  · rw [if_pos c1] at e1
    by_cases c2 : 0 ≤ b ∧ b < A 0
    · rw [if_pos c2] at e2
      by_cases c3 : 0 ≤ t ∧ t ≤ 9999
      · rw [if_pos c3] at e3
        obtain ⟨D, S, e4⟩ := g_settling hO hC c1.1 c1.2 c3.1 (by omega : t ≤ 900000) c2.1 c2.2
        have hE := eT_in hO c1.1 c1.2 c3.1 (by omega : t ≤ 900000) c2.1 (by omega : b < 9)
        have e5 := g_exHour (mW M D S) hE.1 hE.2
        by_cases c4 : eT A a t b = 1000000
        · rw [if_pos c4] at e5
          obtain ⟨D2, e6⟩ := g_X8_earliest hO (mT21 0 (by rw [mW_ne _ _ _ (by omega)]; exact hA : mW M D S 21 0 = rz A)) c1.1 c1.2 c3.1 (by omega : t ≤ 900000) c2.1 (by omega : b < 9)
          refine gd_no hR (M1 := mW M D S) (e := 3) (by omega) (by omega) ?_ (QC.mW M D S) ⟨iZ (-1), mT (mR (mT (mW M D S) 0) 27 0 D2) 3, ?_, mT_9 _ _, ((QR.mT _ _).tr (QR.mR27 _ _)).tr (QR.mT _ _)⟩
          · unfold f_L_earliestArrival f_X7_earliestArrival
            rw [hC.1, e1, bx_l, hC.1, e2, bx_l, e3, bx_l, e4, bd2_s, e5, bx_r, bxh_r]; rfl
          · show f_X8_earliestArrival _ _ _ _ = _
            unfold f_X8_earliestArrival f_X8_earliestArrival_21
            rw [nm_s, mu0_mT, bdq (g_X8_isPlace hO (mT21 0 (by rw [mW_ne _ _ _ (by omega)]; exact hA)) ha), bI_t c1, if_neg n10, bdq (g_X8_isPlace hO (mT21 0 (by rw [mW_ne _ _ _ (by omega)]; exact hA)) hb), bI_t c2, if_neg n10, c64_0, c64_9999, bdq (hin _), bI_t c3, if_neg n10, e6, bd2_s, c4, if_pos (by decide), zc_3, mT_s, bd2_s]
        · rw [if_neg c4] at e5
          have hA2 : mu (mW M D S) 33 0 0 (iZ (eT A a t b)) 21 0 = rz A := mu33 _ (by rw [mW_ne _ _ _ (by omega)]; exact hA)
          obtain ⟨D2, e6⟩ := g_X8_earliest hO (mT21 0 hA2) c1.1 c1.2 c3.1 (by omega : t ≤ 900000) c2.1 (by omega : b < 9)
          refine gd_ok hR (M1 := mW M D S) (r := iZ (eT A a t b)) ?_ (QC.mW M D S) ⟨mR (mT (mu (mW M D S) 33 0 0 (iZ (eT A a t b))) 0) 27 0 D2, ?_, by rw [mR_ne _ _ (by omega)]; exact mT_9 _ _, (QR.mT _ _).tr (QR.mR27 _ _)⟩
          · unfold f_L_earliestArrival f_X7_earliestArrival
            rw [hC.1, e1, bx_l, hC.1, e2, bx_l, e3, bx_l, e4, bd2_s, e5, bx_l, bxh_l, nm_s]; rfl
          · show f_X8_earliestArrival _ _ _ _ = _
            unfold f_X8_earliestArrival f_X8_earliestArrival_21
            rw [nm_s, mu0_mT, bdq (g_X8_isPlace hO (mT21 0 hA2) ha), bI_t c1, if_neg n10, bdq (g_X8_isPlace hO (mT21 0 hA2) hb), bI_t c2, if_neg n10, c64_0, c64_9999, bdq (hin _), bI_t c3, if_neg n10, e6, bd2_s, if_neg (by rw [zc_FAR]; exact ne_z (by omega) (by omega) c4)]
      · rw [if_neg c3] at e3
        refine gd_no hR (M1 := M) (e := 2) (by omega) (by omega) ?_ (QC.rfl' M) ⟨iZ (-1), mT (mT M 0) 2, ?_, mT_9 _ _, (QR.mT _ _).tr (QR.mT _ _)⟩
        · unfold f_L_earliestArrival f_X7_earliestArrival
          rw [hC.1, e1, bx_l, hC.1, e2, bx_l, e3, bx_r, bxh_r]; rfl
        · show f_X8_earliestArrival _ _ _ _ = _
          unfold f_X8_earliestArrival f_X8_earliestArrival_21
          rw [nm_s, mu0_mT, bdq (g_X8_isPlace hO (mT21 0 hA) ha), bI_t c1, if_neg n10, bdq (g_X8_isPlace hO (mT21 0 hA) hb), bI_t c2, if_neg n10, c64_0, c64_9999, bdq (hin _), bI_f c3, if_pos (by decide), zc_2, mT_s, bd2_s]
    · rw [if_neg c2] at e2
      refine gd_no hR (M1 := M) (e := 1) (by omega) (by omega) ?_ (QC.rfl' M) ⟨iZ (-1), mT (mT M 0) 1, ?_, mT_9 _ _, (QR.mT _ _).tr (QR.mT _ _)⟩
      · unfold f_L_earliestArrival f_X7_earliestArrival
        rw [hC.1, e1, bx_l, hC.1, e2, bx_r, bxh_r]; rfl
      · show f_X8_earliestArrival _ _ _ _ = _
        unfold f_X8_earliestArrival f_X8_earliestArrival_21
        rw [nm_s, mu0_mT, bdq (g_X8_isPlace hO (mT21 0 hA) ha), bI_t c1, if_neg n10, bdq (g_X8_isPlace hO (mT21 0 hA) hb), bI_f c2, if_pos (by decide), zc_1, mT_s, bd2_s]
  · rw [if_neg c1] at e1
    refine gd_no hR (M1 := M) (e := 1) (by omega) (by omega) ?_ (QC.rfl' M) ⟨iZ (-1), mT (mT M 0) 1, ?_, mT_9 _ _, (QR.mT _ _).tr (QR.mT _ _)⟩
    · unfold f_L_earliestArrival f_X7_earliestArrival
      rw [hC.1, e1, bx_r, bxh_r]; rfl
    · show f_X8_earliestArrival _ _ _ _ = _
      unfold f_X8_earliestArrival f_X8_earliestArrival_21
      rw [nm_s, mu0_mT, bdq (g_X8_isPlace hO (mT21 0 hA) ha), bI_f c1, if_pos (by decide), zc_1, mT_s, bd2_s]
theorem by_hours_q {M1 : Mem} {a b t : Int32} {r : Int32} {M2 : Mem} (e : f_X8_earliestArrival M1 a b t = some (r, M2)) : f_X8_earliestArrivalByHours M1 a b t = some (r, M2) := by unfold f_X8_earliestArrivalByHours; rw [e, bd2_s]
theorem q_earliestArrivalByHours {n : Int} {M : Mem} (n0 : 0 ≤ n) (n1 : n ≤ 512) (hR : Rl n M) (x y z : Int32) : Gd n (f_L_earliestArrivalByHours M x y z) (fun M1 => f_X8_earliestArrivalByHours M1 x y z) := by
  obtain ⟨a, rfl, ha⟩ := z_mk x
  obtain ⟨b, rfl, hb⟩ := z_mk y
  obtain ⟨t, rfl, ht⟩ := z_mk z
  obtain ⟨A, p, h, hO, hm, hC, hW, hA⟩ := hR.view n0 n1
  have o1 := hO.1
  have o2 := hO.2.1
  have e1 := g_reqIx M ha (b := A 0) (by omega)
  have e2 := g_reqIx M hb (b := A 0) (by omega)
  have e3 := g_reqHr M ht
  have hin := fun M1 : Mem => g_X8_in M1 ht (by omega : i32 0) (by omega : i32 9999)
  by_cases c1 : 0 ≤ a ∧ a < A 0
  · rw [if_pos c1] at e1
    by_cases c2 : 0 ≤ b ∧ b < A 0
    · rw [if_pos c2] at e2
      by_cases c3 : 0 ≤ t ∧ t ≤ 9999
      · rw [if_pos c3] at e3
        obtain ⟨D, S, e4⟩ := g_byHours hO hC c1.1 c1.2 c3.1 (by omega : t ≤ 900000) c2.1 c2.2
        have hE := eT_in hO c1.1 c1.2 c3.1 (by omega : t ≤ 900000) c2.1 (by omega : b < 9)
        have e5 := g_exHour (mW M D S) hE.1 hE.2
        by_cases c4 : eT A a t b = 1000000
        · rw [if_pos c4] at e5
          obtain ⟨D2, e6⟩ := g_X8_earliest hO (mT21 0 (by rw [mW_ne _ _ _ (by omega)]; exact hA : mW M D S 21 0 = rz A)) c1.1 c1.2 c3.1 (by omega : t ≤ 900000) c2.1 (by omega : b < 9)
          refine gd_no hR (M1 := mW M D S) (e := 3) (by omega) (by omega) ?_ (QC.mW M D S) ⟨iZ (-1), mT (mR (mT (mW M D S) 0) 27 0 D2) 3, ?_, mT_9 _ _, ((QR.mT _ _).tr (QR.mR27 _ _)).tr (QR.mT _ _)⟩
          · unfold f_L_earliestArrivalByHours f_X7_earliestArrivalByHours
            rw [hC.1, e1, bx_l, hC.1, e2, bx_l, e3, bx_l, e4, bd2_s, e5, bx_r, bxh_r]; rfl
          · show f_X8_earliestArrivalByHours _ _ _ _ = _
            refine by_hours_q ?_
            unfold f_X8_earliestArrival f_X8_earliestArrival_21
            rw [nm_s, mu0_mT, bdq (g_X8_isPlace hO (mT21 0 (by rw [mW_ne _ _ _ (by omega)]; exact hA)) ha), bI_t c1, if_neg n10, bdq (g_X8_isPlace hO (mT21 0 (by rw [mW_ne _ _ _ (by omega)]; exact hA)) hb), bI_t c2, if_neg n10, c64_0, c64_9999, bdq (hin _), bI_t c3, if_neg n10, e6, bd2_s, c4, if_pos (by decide), zc_3, mT_s, bd2_s]
        · rw [if_neg c4] at e5
          have hA2 : mu (mW M D S) 33 0 0 (iZ (eT A a t b)) 21 0 = rz A := mu33 _ (by rw [mW_ne _ _ _ (by omega)]; exact hA)
          obtain ⟨D2, e6⟩ := g_X8_earliest hO (mT21 0 hA2) c1.1 c1.2 c3.1 (by omega : t ≤ 900000) c2.1 (by omega : b < 9)
          refine gd_ok hR (M1 := mW M D S) (r := iZ (eT A a t b)) ?_ (QC.mW M D S) ⟨mR (mT (mu (mW M D S) 33 0 0 (iZ (eT A a t b))) 0) 27 0 D2, ?_, by rw [mR_ne _ _ (by omega)]; exact mT_9 _ _, (QR.mT _ _).tr (QR.mR27 _ _)⟩
          · unfold f_L_earliestArrivalByHours f_X7_earliestArrivalByHours
            rw [hC.1, e1, bx_l, hC.1, e2, bx_l, e3, bx_l, e4, bd2_s, e5, bx_l, bxh_l, nm_s]; rfl
          · show f_X8_earliestArrivalByHours _ _ _ _ = _
            refine by_hours_q ?_
            unfold f_X8_earliestArrival f_X8_earliestArrival_21
            rw [nm_s, mu0_mT, bdq (g_X8_isPlace hO (mT21 0 hA2) ha), bI_t c1, if_neg n10, bdq (g_X8_isPlace hO (mT21 0 hA2) hb), bI_t c2, if_neg n10, c64_0, c64_9999, bdq (hin _), bI_t c3, if_neg n10, e6, bd2_s, if_neg (by rw [zc_FAR]; exact ne_z (by omega) (by omega) c4)]
      · rw [if_neg c3] at e3
        refine gd_no hR (M1 := M) (e := 2) (by omega) (by omega) ?_ (QC.rfl' M) ⟨iZ (-1), mT (mT M 0) 2, ?_, mT_9 _ _, (QR.mT _ _).tr (QR.mT _ _)⟩
        · unfold f_L_earliestArrivalByHours f_X7_earliestArrivalByHours
          rw [hC.1, e1, bx_l, hC.1, e2, bx_l, e3, bx_r, bxh_r]; rfl
        · show f_X8_earliestArrivalByHours _ _ _ _ = _
          refine by_hours_q ?_
          unfold f_X8_earliestArrival f_X8_earliestArrival_21
          rw [nm_s, mu0_mT, bdq (g_X8_isPlace hO (mT21 0 hA) ha), bI_t c1, if_neg n10, bdq (g_X8_isPlace hO (mT21 0 hA) hb), bI_t c2, if_neg n10, c64_0, c64_9999, bdq (hin _), bI_f c3, if_pos (by decide), zc_2, mT_s, bd2_s]
    · rw [if_neg c2] at e2
      refine gd_no hR (M1 := M) (e := 1) (by omega) (by omega) ?_ (QC.rfl' M) ⟨iZ (-1), mT (mT M 0) 1, ?_, mT_9 _ _, (QR.mT _ _).tr (QR.mT _ _)⟩
      · unfold f_L_earliestArrivalByHours f_X7_earliestArrivalByHours
        rw [hC.1, e1, bx_l, hC.1, e2, bx_r, bxh_r]; rfl
      · show f_X8_earliestArrivalByHours _ _ _ _ = _
        refine by_hours_q ?_
        unfold f_X8_earliestArrival f_X8_earliestArrival_21
        rw [nm_s, mu0_mT, bdq (g_X8_isPlace hO (mT21 0 hA) ha), bI_t c1, if_neg n10, bdq (g_X8_isPlace hO (mT21 0 hA) hb), bI_f c2, if_pos (by decide), zc_1, mT_s, bd2_s]
  · rw [if_neg c1] at e1
    refine gd_no hR (M1 := M) (e := 1) (by omega) (by omega) ?_ (QC.rfl' M) ⟨iZ (-1), mT (mT M 0) 1, ?_, mT_9 _ _, (QR.mT _ _).tr (QR.mT _ _)⟩
    · unfold f_L_earliestArrivalByHours f_X7_earliestArrivalByHours
      rw [hC.1, e1, bx_r, bxh_r]; rfl
    · show f_X8_earliestArrivalByHours _ _ _ _ = _
      refine by_hours_q ?_
      unfold f_X8_earliestArrival f_X8_earliestArrival_21
      rw [nm_s, mu0_mT, bdq (g_X8_isPlace hO (mT21 0 hA) ha), bI_f c1, if_pos (by decide), zc_1, mT_s, bd2_s]
theorem q_fewestLinks {n : Int} {M : Mem} (n0 : 0 ≤ n) (n1 : n ≤ 512) (hR : Rl n M) (x y : Int32) : Gd n (f_L_fewestLinks M x y) (fun M1 => f_X8_fewestLinks M1 x y) := by
  obtain ⟨a, rfl, ha⟩ := z_mk x
  obtain ⟨b, rfl, hb⟩ := z_mk y
  obtain ⟨A, p, h, hO, hm, hC, hW, hA⟩ := hR.view n0 n1
  have o1 := hO.1
  have o2 := hO.2.1
  have e1 := g_reqIx M ha (b := A 0) (by omega)
  have e2 := g_reqIx M hb (b := A 0) (by omega)
  by_cases c1 : 0 ≤ a ∧ a < A 0
  · rw [if_pos c1] at e1
    by_cases c2 : 0 ≤ b ∧ b < A 0
    · rw [if_pos c2] at e2
      obtain ⟨D, e4⟩ := g_stepsBetween hO hC c1.1 c1.2 c2.1 (by omega : b < 9)
      have hE := eS_le hO c1.1 c1.2 c2.1 (by omega : b < 9)
      have e5 := g_exSteps (mR M 10 0 D) (e := eS A a b) (by omega) (by omega)
      have hA1 : mR M 10 0 D 21 0 = rz A := by rw [mR_ne _ _ (by omega)]; exact hA
      by_cases c4 : eS A a b = 1000000
      · rw [if_pos c4] at e5
        obtain ⟨D2, e6⟩ := g_X8_fewest hO (mT21 0 hA1) c1.1 c1.2 c2.1 (by omega : b < 9)
        refine gd_no hR (M1 := mR M 10 0 D) (e := 2) (by omega) (by omega) ?_ (QC.mR10 M D) ⟨iZ (-1), mT (mR (mT (mR M 10 0 D) 0) 27 0 D2) 2, ?_, mT_9 _ _, ((QR.mT _ _).tr (QR.mR27 _ _)).tr (QR.mT _ _)⟩
        · unfold f_L_fewestLinks f_X7_fewestLinks
          rw [hC.1, e1, bx_l, hC.1, e2, bx_l, e4, bd2_s, e5, bx_r, bxh_r]; rfl
        · show f_X8_fewestLinks _ _ _ = _
          unfold f_X8_fewestLinks f_X8_fewestLinks_21
          rw [nm_s, mu0_mT, bdq (g_X8_isPlace hO (mT21 0 hA1) ha), bI_t c1, if_neg n10, bdq (g_X8_isPlace hO (mT21 0 hA1) hb), bI_t c2, if_neg n10, e6, bd2_s, c4, if_neg (by decide), zc_2, mT_s, bd2_s]
      · rw [if_neg c4] at e5
        have hA2 := mu33 (iZ (eS A a b)) hA1
        obtain ⟨D2, e6⟩ := g_X8_fewest hO (mT21 0 hA2) c1.1 c1.2 c2.1 (by omega : b < 9)
        refine gd_ok hR (M1 := mR M 10 0 D) (r := iZ (eS A a b)) ?_ (QC.mR10 M D) ⟨mR (mT (mu (mR M 10 0 D) 33 0 0 (iZ (eS A a b))) 0) 27 0 D2, ?_, by rw [mR_ne _ _ (by omega)]; exact mT_9 _ _, (QR.mT _ _).tr (QR.mR27 _ _)⟩
        · unfold f_L_fewestLinks f_X7_fewestLinks
          rw [hC.1, e1, bx_l, hC.1, e2, bx_l, e4, bd2_s, e5, bx_l, bxh_l, nm_s]; rfl
        · show f_X8_fewestLinks _ _ _ = _
          unfold f_X8_fewestLinks f_X8_fewestLinks_21
          rw [nm_s, mu0_mT, bdq (g_X8_isPlace hO (mT21 0 hA2) ha), bI_t c1, if_neg n10, bdq (g_X8_isPlace hO (mT21 0 hA2) hb), bI_t c2, if_neg n10, e6, bd2_s, if_pos (by rw [zc_FAR, z_lt (by omega) (by omega) (by omega) (by omega)]; omega)]
    · rw [if_neg c2] at e2
      refine gd_no hR (M1 := M) (e := 1) (by omega) (by omega) ?_ (QC.rfl' M) ⟨iZ (-1), mT (mT M 0) 1, ?_, mT_9 _ _, (QR.mT _ _).tr (QR.mT _ _)⟩
      · unfold f_L_fewestLinks f_X7_fewestLinks
        rw [hC.1, e1, bx_l, hC.1, e2, bx_r, bxh_r]; rfl
      · show f_X8_fewestLinks _ _ _ = _
        unfold f_X8_fewestLinks f_X8_fewestLinks_21
        rw [nm_s, mu0_mT, bdq (g_X8_isPlace hO (mT21 0 hA) ha), bI_t c1, if_neg n10, bdq (g_X8_isPlace hO (mT21 0 hA) hb), bI_f c2, if_pos (by decide), zc_1, mT_s, bd2_s]
  · rw [if_neg c1] at e1
    refine gd_no hR (M1 := M) (e := 1) (by omega) (by omega) ?_ (QC.rfl' M) ⟨iZ (-1), mT (mT M 0) 1, ?_, mT_9 _ _, (QR.mT _ _).tr (QR.mT _ _)⟩
    · unfold f_L_fewestLinks f_X7_fewestLinks
      rw [hC.1, e1, bx_r, bxh_r]; rfl
    · show f_X8_fewestLinks _ _ _ = _
      unfold f_X8_fewestLinks f_X8_fewestLinks_21
      rw [nm_s, mu0_mT, bdq (g_X8_isPlace hO (mT21 0 hA) ha), bI_f c1, if_pos (by decide), zc_1, mT_s, bd2_s]
theorem sF_add (f : Int → Int) (m : Nat) : ∀ (n : Nat) (i : Int), sF f (n + m) i = sF f n i + sF f m (i + n) := by
  intro n
  induction n with
  | zero => intro i; rw [Nat.zero_add, show i + ((0 : Nat) : Int) = i by omega]; unfold sF; omega
  | succ n ih =>
    intro i
    rw [show n + 1 + m = (n + m) + 1 by omega]
    show f i + sF f (n + m) (i + 1) = f i + sF f n (i + 1) + sF f m (i + ((n + 1 : Nat) : Int))
    rw [ih (i + 1), show i + 1 + (n : Int) = i + ((n + 1 : Nat) : Int) by omega]
    omega
theorem sF_0 {f : Int → Int} (m : Nat) (i : Int) (h : ∀ k, i ≤ k → k < i + m → f k = 0) : sF f m i = 0 := by
  rw [sF_cg (g := fun _ => 0) m i h]
  have h1 := sF_nn (f := fun _ => (0 : Int)) m i (fun _ _ _ => Int.le_refl 0)
  have h2 := sF_le (f := fun _ => (0 : Int)) (b := 0) m i (fun _ _ _ => Int.le_refl 0)
  omega
theorem g_reach_29 {M : Mem} {A D : Int → Int} (hA : M 21 0 = rz A) (hD : M 27 0 = rz D) (h9 : A 0 ≤ 9) (hd : ∀ v, 0 ≤ v → v < 9 → 0 ≤ D v ∧ D v ≤ 1000000) : ∀ (n f : Nat) (i c : Int), 0 ≤ i → i + n = A 0 → n < f → 0 ≤ c → c ≤ i → f_X8_reachable_29 f M (iZ c) (iZ i) = some (iZ (c + sF (fun v => if D v = 1000000 then 0 else 1) n i), M) := by
  intro n
  induction n with
  | zero =>
    intro f i c i0 hi hf c0 c1
    obtain ⟨f, rfl⟩ : ∃ g, f = g + 1 := ⟨f - 1, by omega⟩
    clear hd
    simp (disch := omega) only [f_X8_reachable_29, hA, rz_0, sF, ↓reduceIte, ↓nm_s, ↓lk_s, ↓pc_s, z_add, z_sub, z_mul, z_neg, z_le, z_lt, z_eq, z_ix, z_vin, z_rem, zc_0, zc_1, zc_2, zc_3, zc_4, zc_5, zc_6, zc_7, zc_8, zc_9, zc_10, zc_12, zc_20, zc_60, zc_80, zc_108, zc_120, zc_185, zc_192, zc_1344, zc_9999, zc_FAR, zc_NEV, ite_T, ite_F, bd_s, bd2_s, rz_z, toNat_cast, mR_at, mR_ne, mu_mR, il_t, il_f, ilt_t, ilt_f, ieq_t, ieq_f, nlt_t]
    rw [Int.add_zero]
  | succ n ih =>
    intro f i c i0 hi hf c0 c1
    obtain ⟨f, rfl⟩ : ∃ g, f = g + 1 := ⟨f - 1, by omega⟩
    have hv := hd i i0 (by omega)
    clear hd
    unfold sF
    by_cases hc : D i = 1000000
    · have h1 := ih f (i + 1) c (by omega) (by omega) (by omega) c0 (by omega)
      rw [if_pos hc, Int.zero_add, ← h1]
      clear ih h1
      simp (disch := omega) only [f_X8_reachable_29, f_X8_reachable_56, hA, hD, rz_0, ↓reduceIte, ↓nm_s, ↓lk_s, ↓pc_s, z_add, z_sub, z_mul, z_neg, z_le, z_lt, z_eq, z_ix, z_vin, z_rem, zc_0, zc_1, zc_2, zc_3, zc_4, zc_5, zc_6, zc_7, zc_8, zc_9, zc_10, zc_12, zc_20, zc_60, zc_80, zc_108, zc_120, zc_185, zc_192, zc_1344, zc_9999, zc_FAR, zc_NEV, ite_T, ite_F, bd_s, bd2_s, rz_z, toNat_cast, mR_at, mR_ne, mu_mR, il_t, il_f, ilt_t, ilt_f, ieq_t, ieq_f, nlt_t]
      rw [Int.add_zero]
    · have h1 := ih f (i + 1) (c + 1) (by omega) (by omega) (by omega) (by omega) (by omega)
      rw [if_neg hc, ← Int.add_assoc, ← h1]
      clear ih h1
      simp (disch := omega) only [f_X8_reachable_29, f_X8_reachable_56, hA, hD, rz_0, ↓reduceIte, ↓nm_s, ↓lk_s, ↓pc_s, z_add, z_sub, z_mul, z_neg, z_le, z_lt, z_eq, z_ix, z_vin, z_rem, zc_0, zc_1, zc_2, zc_3, zc_4, zc_5, zc_6, zc_7, zc_8, zc_9, zc_10, zc_12, zc_20, zc_60, zc_80, zc_108, zc_120, zc_185, zc_192, zc_1344, zc_9999, zc_FAR, zc_NEV, ite_T, ite_F, bd_s, bd2_s, rz_z, toNat_cast, mR_at, mR_ne, mu_mR, il_t, il_f, ilt_t, ilt_f, ieq_t, ieq_f, nlt_t]
theorem q_reachable {n : Int} {M : Mem} (n0 : 0 ≤ n) (n1 : n ≤ 512) (hR : Rl n M) (x : Int32) : Gd n (f_L_reachable M x) (fun M1 => f_X8_reachable M1 x) := by
  obtain ⟨a, rfl, ha⟩ := z_mk x
  obtain ⟨A, p, h, hO, hm, hC, hW, hA⟩ := hR.view n0 n1
  have o1 := hO.1
  have o2 := hO.2.1
  have e1 := g_reqIx M ha (b := A 0) (by omega)
  by_cases c1 : 0 ≤ a ∧ a < A 0
  · rw [if_pos c1] at e1
    obtain ⟨D, e4, -⟩ := g_spread hO hC c1.1 c1.2
    have hA1 : mR M 10 0 D 21 0 = rz A := by rw [mR_ne _ _ (by omega)]; exact hA
    have hA2 := mu33 (iZ (sReach A a)) hA1
    obtain ⟨D2, e6, e7⟩ := g_X8_reaches hO (mT21 0 hA2) c1.1 c1.2 (t := 0) (by omega) (by omega)
    refine gd_ok hR (M1 := mR M 10 0 D) (r := iZ (sReach A a)) ?_ (QC.mR10 M D) ⟨mR (mT (mu (mR M 10 0 D) 33 0 0 (iZ (sReach A a))) 0) 27 0 D2, ?_, by rw [mR_ne _ _ (by omega)]; exact mT_9 _ _, (QR.mT _ _).tr (QR.mR27 _ _)⟩
    · unfold f_L_reachable f_X7_reachable
      rw [hC.1, e1, bx_l, e4, bd2_s, bxh_l, nm_s]; rfl
    · show f_X8_reachable _ _ = _
      unfold f_X8_reachable
      rw [nm_s, mu0_mT, bdq (g_X8_isPlace hO (mT21 0 hA2) ha), bI_t c1, if_neg n10, zc_0, bdq e6]
      rw [g_reach_29 (A := A) (D := D2) (by rw [mR_ne _ _ (by omega)]; exact mT21 0 hA2) (mR_at _ _ _ _) o2 (fun v v0 v1 => by rw [e7 v v0 v1]; exact eT_in hO c1.1 c1.2 (Int.le_refl 0) (by omega) v0 v1) (A 0).toNat FU 0 0 (by omega) (by omega) (by unfold FU; omega) (by omega) (by omega)]
      have hs : sReach A a = 0 + sF (fun v => if D2 v = 1000000 then 0 else 1) (A 0).toNat 0 := by
        unfold sReach
        rw [show (9 : Nat) = (A 0).toNat + (9 - (A 0).toNat) by omega, sF_add, sF_0 (9 - (A 0).toNat) (0 + ((A 0).toNat : Int)) (fun k k0 k1 => by
          have h1 := eS_leP hO c1.1 c1.2 (v := k) (by omega) (by omega)
          exact if_pos (by omega))]
        rw [Int.add_zero, Int.zero_add]
        refine sF_cg _ _ (fun k k0 k1 => ?_)
        rw [e7 k (by omega) (by omega)]
        have h1 := eT_eS hO c1.1 c1.2 (t := 0) (by omega) (v := k) (by omega) (by omega)
        by_cases h2 : eS A a k = 1000000
        · rw [if_pos h2, if_pos (h1.mpr h2)]
        · rw [if_neg h2, if_neg (fun h3 => h2 (h1.mp h3))]
      rw [← hs]
  · rw [if_neg c1] at e1
    refine gd_no hR (M1 := M) (e := 1) (by omega) (by omega) ?_ (QC.rfl' M) ⟨iZ (-1), mT (mT M 0) 1, ?_, mT_9 _ _, (QR.mT _ _).tr (QR.mT _ _)⟩
    · unfold f_L_reachable f_X7_reachable
      rw [hC.1, e1, bx_r, bxh_r]; rfl
    · show f_X8_reachable _ _ = _
      unfold f_X8_reachable
      rw [nm_s, mu0_mT, bdq (g_X8_isPlace hO (mT21 0 hA) ha), bI_f c1, if_pos (by decide), zc_1, mT_s, bd2_s]
