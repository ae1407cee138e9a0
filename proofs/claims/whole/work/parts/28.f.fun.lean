/-! Questions of parcels. -/
theorem g_exParcel {p h : Int} {M : Mem} {A : Int → Int} (hO : Ok p h A) (hm : Rm p h) (hR : Rw M 0) (hC : Cl M 0 A) {d : Int} (hd : i32 d) : f_X7_existingParcel M (iZ d) = if sPos A d = -1 then some (.inr 3, M) else some (.inl (ix (M 5 0 (sPos A d).toNat)), M) := by
  have h1 := g_find hO hm (Nat.zero_le _) hR hC hd
  have hp := sPos_in hO d
  have o6 := hO.2.2.2.2.2.1
  unfold f_X7_existingParcel
  rw [bdq h1]
  by_cases c : sPos A d = -1
  · rw [if_pos c, if_pos c]; rfl
  · rw [if_neg c, if_neg c]
    have hr := hR.1 (sPos A d) (by omega) (by omega)
    unfold on
    show (if ix (M 5 0 (sPos A d).toNat) < 132 then _ else _) = _
    rw [if_pos (by omega)]
theorem g_ofParcel {p h : Int} {M : Mem} {A : Int → Int} (hO : Ok p h A) (hm : Rm p h) (hA : M 21 0 = rz A) {d w : Int} (hd : i32 d) (w0 : 0 ≤ w) (w1 : w ≤ 6) : f_X8_ofParcel M (iZ d) (iZ w) = if sPos A d = -1 then some (iZ (-1), mT (mT M 0) 1) else some (iZ (A (108 + 7 * sPos A d + w)), mT M 0) := by
  have h1 := g_X8_find hO hm (mT21 0 hA) hd
  have hp := sPos_in hO d
  have o6 := hO.2.2.2.2.2.1
  clear hO
  unfold f_X8_ofParcel
  rw [nm_s, mu0_mT, bdq h1]
  by_cases c : sPos A d = -1
  · rw [if_pos c, c, if_pos (by decide), zc_1, mT_s, bd2_s]
  · rw [if_neg c, if_neg (by rw [zc_m1, z_eq (by omega) (by omega) (by omega) (by omega)]; exact c), bdq h1, pc_s]
    simp (disch := omega) only [mT_21, hA, ↓reduceIte, ↓nm_s, ↓lk_s, ↓pc_s, z_add, z_sub, z_mul, z_neg, z_le, z_lt, z_eq, z_ix, z_vin, z_rem, zc_0, zc_1, zc_2, zc_3, zc_4, zc_5, zc_6, zc_7, zc_8, zc_9, zc_10, zc_12, zc_20, zc_60, zc_80, zc_108, zc_120, zc_185, zc_192, zc_1344, zc_9999, zc_FAR, zc_NEV, ite_T, ite_F, bd_s, bd2_s, rz_z, toNat_cast, mR_at, mR_ne, mu_mR, il_t, il_f, ilt_t, ilt_f, ieq_t, ieq_f, nlt_t]
theorem pcl_of {p h : Int} {A : Int → Int} (hO : Ok p h A) {k : Int} (k0 : 0 ≤ k) (k1 : k < A 2) : pcl A h k := hO.2.2.2.2.2.2.2.2.2.2.2.2.2.1 k k0 k1
theorem cl_of {M : Mem} {A : Int → Int} (hC : Cl M 0 A) {k : Int} (k0 : 0 ≤ k) (k1 : k < A 2) : PcC M 0 A k := hC.2.2.2.2.2.2.2.2.2 k k0 k1
theorem gd_parcel {n : Int} {M : Mem} (n0 : 0 ≤ n) (n1 : n ≤ 512) (hR : Rl n M) (x : Int32) {w : Int} {d : Nat} (hw : (w = 1 ∧ d = 3) ∨ (w = 2 ∧ d = 1) ∨ (w = 3 ∧ d = 2)) {fL : Option (Int32 × Mem)} {fX : Mem → Option (Int32 × Mem)}
    (h1 : ∀ q r, q < 132 → f_X7_existingParcel M x = some (.inl q, M) → M 6 q d = r → fL = some (iZ 0, mu M 33 0 0 r)) (h2 : f_X7_existingParcel M x = some (.inr 3, M) → fL = some (iZ 1, M)) (h3 : ∀ M1 r M2, f_X8_ofParcel M1 x (iZ w) = some (r, M2) → fX M1 = some (r, M2)) : Gd n fL fX := by
  obtain ⟨a, rfl, ha⟩ := z_mk x
  obtain ⟨A, p, h, hO, hm, hC, hW, hA⟩ := hR.view n0 n1
  have o6 := hO.2.2.2.2.2.1
  have hp := sPos_in hO a
  have e1 := g_exParcel hO hm.lo hW hC ha
  by_cases e : sPos A a = -1
  · rw [if_pos e] at e1
    exact gd_no hR (e := 1) (by omega) (by omega) (h2 e1) (QC.rfl' M) ⟨_, _, h3 _ _ _ (by rw [g_ofParcel hO hm.lo hA ha (by omega) (by omega), if_pos e]), mT_9 _ _, (QR.mT _ _).tr (QR.mT _ _)⟩
  · rw [if_neg e] at e1
    have cl := cl_of hC (k := sPos A a) (by omega) (by omega)
    have hr := hW.1 (sPos A a) (by omega) (by omega)
    have hv : M 6 (ix (M 5 0 (sPos A a).toNat)) d = iZ (A (108 + 7 * sPos A a + w)) := by
      obtain ⟨rfl, rfl⟩ | ⟨rfl, rfl⟩ | ⟨rfl, rfl⟩ := hw
      · exact cl.2.2.2.1
      · exact cl.2.1
      · exact cl.2.2.1
    exact gd_ok hR (h1 _ _ (by omega) e1 hv) (QC.rfl' M) ⟨_, h3 _ _ _ (by rw [g_ofParcel hO hm.lo (mu33 _ hA) ha (by omega) (by omega), if_neg e]), mT_9 _ _, QR.mT _ _⟩
theorem q_destinationOf {n : Int} {M : Mem} (n0 : 0 ≤ n) (n1 : n ≤ 512) (hR : Rl n M) (x : Int32) : Gd n (f_L_destinationOf M x) (fun M1 => f_X8_destinationOf M1 x) := by
  refine gd_parcel n0 n1 hR x (w := 1) (d := 3) (by omega) (fun q r hq e hr => ?_) (fun e => ?_) (fun M1 r M2 e => ?_)
  · unfold f_L_destinationOf f_X7_destinationOf
    rw [e, bx_l, if_pos hq, bxh_l, nm_s, ← hr]; rfl
  · unfold f_L_destinationOf f_X7_destinationOf
    rw [e, bx_r, bxh_r]; rfl
  · unfold f_X8_destinationOf; rw [zc_1, e, bd2_s]
theorem q_weightOf {n : Int} {M : Mem} (n0 : 0 ≤ n) (n1 : n ≤ 512) (hR : Rl n M) (x : Int32) : Gd n (f_L_weightOf M x) (fun M1 => f_X8_weightOf M1 x) := by
  refine gd_parcel n0 n1 hR x (w := 2) (d := 1) (by omega) (fun q r hq e hr => ?_) (fun e => ?_) (fun M1 r M2 e => ?_)
  · unfold f_L_weightOf f_X7_weightOf
    rw [e, bx_l, if_pos hq, bxh_l, nm_s, ← hr]; rfl
  · unfold f_L_weightOf f_X7_weightOf
    rw [e, bx_r, bxh_r]; rfl
  · unfold f_X8_weightOf; rw [zc_2, e, bd2_s]
theorem q_stampsOf {n : Int} {M : Mem} (n0 : 0 ≤ n) (n1 : n ≤ 512) (hR : Rl n M) (x : Int32) : Gd n (f_L_stampsOf M x) (fun M1 => f_X8_stampsOf M1 x) := by
  refine gd_parcel n0 n1 hR x (w := 3) (d := 2) (by omega) (fun q r hq e hr => ?_) (fun e => ?_) (fun M1 r M2 e => ?_)
  · unfold f_L_stampsOf f_X7_stampsOf
    rw [e, bx_l, if_pos hq, bxh_l, nm_s, ← hr]; rfl
  · unfold f_L_stampsOf f_X7_stampsOf
    rw [e, bx_r, bxh_r]; rfl
  · unfold f_X8_stampsOf; rw [zc_3, e, bd2_s]
theorem q_idAt {n : Int} {M : Mem} (n0 : 0 ≤ n) (n1 : n ≤ 512) (hR : Rl n M) (x : Int32) : Gd n (f_L_idAt M x) (fun M1 => f_X8_idAt M1 x) := by
  obtain ⟨a, rfl, ha⟩ := z_mk x
  obtain ⟨A, p, h, hO, hm, hC, hW, hA⟩ := hR.view n0 n1
  have o5 := hO.2.2.2.2.1
  have o6 := hO.2.2.2.2.2.1
  have e1 := g_reqIx M ha (b := A 2) (by omega)
  have hin := fun M1 : Mem => g_X8_in M1 ha (by omega : i32 0) (by omega : i32 (A 2 - 1))
  by_cases e : 0 ≤ a ∧ a < A 2
  · rw [if_pos e] at e1
    have hr := hW.1 a e.1 (by omega)
    have cl := (cl_of hC e.1 e.2).1
    refine gd_ok hR (M1 := M) (r := iZ (A (108 + 7 * a))) ?_ (QC.rfl' M) ⟨mT (mu M 33 0 0 _) 0, ?_, mT_9 _ _, QR.mT _ _⟩
    · unfold f_L_idAt f_X7_idAt
      rw [hC.2.2.1, e1, bx_l, if_pos (of_eq_true (z_vin e.1 (by omega) (by omega))), z_ix (by omega) (by omega), if_pos (by omega), bxh_l, nm_s, cl]; rfl
    · show f_X8_idAt _ _ = _
      have hA2 := mT21 0 (mu33 (iZ (A (108 + 7 * a))) hA)
      unfold f_X8_idAt
      rw [nm_s, mu0_mT, c64_0, hA2, rz_2, zc_1, z_sub, bdq (hin _), bI_t (by omega), if_neg (by decide), pc_s]
      simp (disch := omega) only [hA2, ↓reduceIte, ↓nm_s, ↓lk_s, ↓pc_s, z_add, z_sub, z_mul, z_neg, z_le, z_lt, z_eq, z_ix, z_vin, z_rem, zc_0, zc_1, zc_2, zc_3, zc_4, zc_5, zc_6, zc_7, zc_8, zc_9, zc_10, zc_12, zc_20, zc_60, zc_80, zc_108, zc_120, zc_185, zc_192, zc_1344, zc_9999, zc_FAR, zc_NEV, ite_T, ite_F, bd_s, bd2_s, rz_z, toNat_cast, mR_at, mR_ne, mu_mR, il_t, il_f, ilt_t, ilt_f, ieq_t, ieq_f, nlt_t]
  · rw [if_neg e] at e1
    refine gd_no hR (M1 := M) (e := 1) (by omega) (by omega) ?_ (QC.rfl' M) ⟨iZ (-1), mT (mT M 0) 1, ?_, mT_9 _ _, (QR.mT _ _).tr (QR.mT _ _)⟩
    · unfold f_L_idAt f_X7_idAt
      rw [hC.2.2.1, e1, bx_r, bxh_r]; rfl
    · show f_X8_idAt _ _ = _
      unfold f_X8_idAt
      rw [nm_s, mu0_mT, c64_0, mT21 0 hA, rz_2, zc_1, z_sub, bdq (hin _), bI_f (by omega), if_pos (by decide), mT_s, bd2_s]
theorem l15t_0 (M : Mem) : f_L_isTravelling_15 M (0 : Int64) = some (iZ 0, mu M 33 0 0 (iZ 0)) := by unfold f_L_isTravelling_15; rw [if_pos (by decide), nm_s]; rfl
theorem l15t_1 (M : Mem) : f_L_isTravelling_15 M (1 : Int64) = some (iZ 0, mu M 33 0 0 (iZ 1)) := by unfold f_L_isTravelling_15; rw [if_pos (by decide), nm_s]; rfl
theorem g_under {p h : Int} {M : Mem} {A : Int → Int} (hO : Ok p h A) (hm : Rm p h) (hC : Cl M 0 A) {k : Int} (k0 : 0 ≤ k) (k1 : k < A 2) : f_X3_isUnderWay M (ix (M 5 0 k.toNat)) = some (iZ (if A (108 + 7 * k + 4) = -1 then 1 else 0)) := by
  have cl := (cl_of hC k0 k1).2.2.2.2.2.1
  have hk := pcl_of hO k0 k1
  have o4 := hO.2.2.2.1
  unfold pcl at hk
  have hb : (A (108 + 7 * k + 4) = -1 ∧ 0 ≤ A (108 + 7 * k + 5) ∧ A (108 + 7 * k + 5) ≤ 20) ∨ (A (108 + 7 * k + 4) ≠ -1 ∧ A (108 + 7 * k + 5) = -1) := by omega
  clear hO hC hk
  unfold f_X3_isUnderWay
  rw [cl]
  obtain ⟨h1, h2, h3⟩ | ⟨h1, h2⟩ := hb
  · rw [if_pos h1, if_neg (by rw [zc_m1, z_eq (by omega) (by omega) (by omega) (by omega)]; omega)]; rfl
  · rw [if_neg h1, h2, if_pos (by decide)]; rfl
theorem q_isTravelling {n : Int} {M : Mem} (n0 : 0 ≤ n) (n1 : n ≤ 512) (hR : Rl n M) (x : Int32) : GdB n (f_L_isTravelling M x) (fun M1 => f_X8_isTravelling M1 x) := by
  obtain ⟨a, rfl, ha⟩ := z_mk x
  obtain ⟨A, p, h, hO, hm, hC, hW, hA⟩ := hR.view n0 n1
  have o2 := hO.2.1
  have o6 := hO.2.2.2.2.2.1
  have hp := sPos_in hO a
  have e1 := g_exParcel hO hm.lo hW hC ha
  by_cases e : sPos A a = -1
  · rw [if_pos e] at e1
    refine gdb_no hR (M1 := M) (e := 1) (by omega) (by omega) ?_ (QC.rfl' M) ⟨0, mT (mT M 0) 1, ?_, mT_9 _ _, (QR.mT _ _).tr (QR.mT _ _)⟩
    · unfold f_L_isTravelling f_X7_isTravelling
      rw [e1, bx_r, bxh_r]; rfl
    · show f_X8_isTravelling _ _ = _
      unfold f_X8_isTravelling
      rw [zc_4, g_ofParcel hO hm.lo hA ha (by omega) (by omega), if_pos e, bd2_s, mT_9, if_neg n10]; rfl
  · rw [if_neg e] at e1
    have hu := g_under hO hm.lo hC (k := sPos A a) (by omega) (by omega)
    have hr := hW.1 (sPos A a) (by omega) (by omega)
    have hk := pcl_of hO (k := sPos A a) (by omega) (by omega)
    unfold pcl at hk
    by_cases c : A (108 + 7 * sPos A a + 4) = -1
    · rw [if_pos c] at hu
      refine gdb_ok hR (M1 := M) (b := 1) (by omega) ?_ (QC.rfl' M) ⟨mT (mu M 33 0 0 (iZ 1)) 0, ?_, mT_9 _ _, QR.mT _ _⟩
      · unfold f_L_isTravelling f_X7_isTravelling
        rw [e1, bx_l, if_pos (by omega), bdq hu, if_pos (isB_z (by omega) (by omega)), bxh_l, if_neg n10]
        exact l15t_1 M
      · show f_X8_isTravelling _ _ = _
        unfold f_X8_isTravelling
        rw [zc_4, g_ofParcel hO hm.lo (mu33 _ hA) ha (by omega) (by omega), if_neg e, bd2_s, mT_9, if_pos (by decide), c, if_pos (by decide)]; rfl
    · rw [if_neg c] at hu
      refine gdb_ok hR (M1 := M) (b := 0) (by omega) ?_ (QC.rfl' M) ⟨mT (mu M 33 0 0 (iZ 0)) 0, ?_, mT_9 _ _, QR.mT _ _⟩
      · unfold f_L_isTravelling f_X7_isTravelling
        rw [e1, bx_l, if_pos (by omega), bdq hu, if_pos (isB_z (by omega) (by omega)), bxh_l, if_pos (by decide)]
        exact l15t_0 M
      · show f_X8_isTravelling _ _ = _
        unfold f_X8_isTravelling
        rw [zc_4, g_ofParcel hO hm.lo (mu33 _ hA) ha (by omega) (by omega), if_neg e, bd2_s, mT_9, if_pos (by decide), if_neg (by rw [zc_m1, z_eq (by omega) (by omega) (by omega) (by omega)]; exact c)]; rfl
theorem g_waitingParcel {p h : Int} {M : Mem} {A : Int → Int} (hO : Ok p h A) (hm : Rm p h) (hR : Rw M 0) (hC : Cl M 0 A) {d : Int} (hd : i32 d) : f_X7_waitingParcel M (iZ d) = if sPos A d = -1 ∨ A (108 + 7 * sPos A d + 4) = -1 then some (.inr 3, M) else some (.inl (ix (M 5 0 (sPos A d).toNat)), M) := by
  have hp := sPos_in hO d
  have o6 := hO.2.2.2.2.2.1
  unfold f_X7_waitingParcel
  rw [g_exParcel hO hm hR hC hd]
  by_cases c : sPos A d = -1
  · rw [if_pos c, if_pos (.inl c), bx_r]
  · have hr := hR.1 (sPos A d) (by omega) (by omega)
    rw [if_neg c, bx_l, if_pos (by omega), bdq (g_under hO hm hC (by omega) (by omega))]
    by_cases c2 : A (108 + 7 * sPos A d + 4) = -1
    · rw [if_pos c2, if_neg n10, if_pos (.inr c2)]
    · rw [if_neg c2, if_pos (by decide), if_neg (by omega)]
theorem g_travParcel {p h : Int} {M : Mem} {A : Int → Int} (hO : Ok p h A) (hm : Rm p h) (hR : Rw M 0) (hC : Cl M 0 A) {d : Int} (hd : i32 d) : f_X7_travellingParcel M (iZ d) = if sPos A d = -1 ∨ A (108 + 7 * sPos A d + 4) ≠ -1 then some (.inr 3, M) else some (.inl (ix (M 5 0 (sPos A d).toNat)), M) := by
  have hp := sPos_in hO d
  have o6 := hO.2.2.2.2.2.1
  unfold f_X7_travellingParcel
  rw [g_exParcel hO hm hR hC hd]
  by_cases c : sPos A d = -1
  · rw [if_pos c, if_pos (.inl c), bx_r]
  · have hr := hR.1 (sPos A d) (by omega) (by omega)
    rw [if_neg c, bx_l, if_pos (by omega), bdq (g_under hO hm hC (by omega) (by omega))]
    by_cases c2 : A (108 + 7 * sPos A d + 4) = -1
    · rw [if_pos c2, if_neg n10, if_neg (by omega)]
    · rw [if_neg c2, if_pos (by decide), if_pos (.inr c2)]
theorem q_placeOf {n : Int} {M : Mem} (n0 : 0 ≤ n) (n1 : n ≤ 512) (hR : Rl n M) (x : Int32) : Gd n (f_L_placeOf M x) (fun M1 => f_X8_placeOf M1 x) := by
  obtain ⟨a, rfl, ha⟩ := z_mk x
  obtain ⟨A, p, h, hO, hm, hC, hW, hA⟩ := hR.view n0 n1
  have o2 := hO.2.1
  have o6 := hO.2.2.2.2.2.1
  have hp := sPos_in hO a
  have e1 := g_waitingParcel hO hm.lo hW hC ha
  by_cases e : sPos A a = -1
  · rw [if_pos (.inl e)] at e1
    refine gd_no hR (M1 := M) (e := 1) (by omega) (by omega) ?_ (QC.rfl' M) ⟨iZ (-1), mT (mT M 0) 1, ?_, mT_9 _ _, (QR.mT _ _).tr (QR.mT _ _)⟩
    · unfold f_L_placeOf f_X7_placeOf
      rw [e1, bx_r, bxh_r]; rfl
    · show f_X8_placeOf _ _ = _
      unfold f_X8_placeOf
      rw [zc_4, g_ofParcel hO hm.lo hA ha (by omega) (by omega), if_pos e, bd2_s, mT_9, if_neg n10]
  · have hr := hW.1 (sPos A a) (by omega) (by omega)
    have hk := pcl_of hO (k := sPos A a) (by omega) (by omega)
    have cl := (cl_of hC (k := sPos A a) (by omega) (by omega)).2.2.2.2.1
    unfold pcl at hk
    by_cases c : A (108 + 7 * sPos A a + 4) = -1
    · rw [if_pos (.inr c)] at e1
      refine gd_no hR (M1 := M) (e := 1) (by omega) (by omega) ?_ (QC.rfl' M) ⟨iZ (-1), mT (mT M 0) 1, ?_, mT_9 _ _, (QR.mT _ _).tr (QR.mT _ _)⟩
      · unfold f_L_placeOf f_X7_placeOf
        rw [e1, bx_r, bxh_r]; rfl
      · show f_X8_placeOf _ _ = _
        unfold f_X8_placeOf
        rw [zc_4, g_ofParcel hO hm.lo hA ha (by omega) (by omega), if_neg e, bd2_s, mT_9, if_pos (by decide), c, if_pos (by decide), zc_1, mT_s, bd2_s]
    · rw [if_neg (by omega)] at e1
      unfold sAt at cl
      rw [if_neg c] at cl
      refine gd_ok hR (M1 := M) (r := iZ (A (108 + 7 * sPos A a + 4))) ?_ (QC.rfl' M) ⟨mT (mu M 33 0 0 _) 0, ?_, mT_9 _ _, QR.mT _ _⟩
      · unfold f_L_placeOf f_X7_placeOf
        rw [e1, bx_l, if_pos (by omega), bxh_l, nm_s, cl]; rfl
      · show f_X8_placeOf _ _ = _
        unfold f_X8_placeOf
        rw [zc_4, g_ofParcel hO hm.lo (mu33 _ hA) ha (by omega) (by omega), if_neg e, bd2_s, mT_9, if_pos (by decide), if_neg (by rw [zc_m1, z_eq (by omega) (by omega) (by omega) (by omega)]; exact c)]
/-- the reference's questions of a travelling parcel -/
theorem g_ofTrav {p h : Int} {M : Mem} {A : Int → Int} (hO : Ok p h A) (hm : Rm p h) (hA : M 21 0 = rz A) {d w : Int} (hd : i32 d) (w0 : 0 ≤ w) (w1 : w ≤ 6) : ∃ M2, f_X8_ofTravelling M (iZ d) (iZ w) = some (iZ (if sPos A d = -1 ∨ A (108 + 7 * sPos A d + 4) ≠ -1 then -1 else A (108 + 7 * sPos A d + w)), M2) ∧ M2 20 0 9 = iZ (if sPos A d = -1 ∨ A (108 + 7 * sPos A d + 4) ≠ -1 then 1 else 0) ∧ QR M M2 := by
  have hp := sPos_in hO d
  have o2 := hO.2.1
  have o6 := hO.2.2.2.2.2.1
  unfold f_X8_ofTravelling f_X8_ofTravelling_19
  rw [zc_4, g_ofParcel hO hm hA hd (by omega) (by omega)]
  by_cases c : sPos A d = -1
  · rw [if_pos c, if_pos (.inl c), if_pos (.inl c), bd2_s, mT_9, if_pos (by decide), zc_1, mT_s, bd2_s]
    exact ⟨_, rfl, mT_9 _ _, ((QR.mT _ _).tr (QR.mT _ _)).tr (QR.mT _ _)⟩
  · have hk := pcl_of hO (k := sPos A d) (by omega) (by omega)
    have hk4 : -1 ≤ A (108 + 7 * sPos A d + 4) ∧ A (108 + 7 * sPos A d + 4) ≤ 9 := by unfold pcl at hk; omega
    have h1 := g_X8_find hO hm (mT21 0 hA) hd
    clear hO hk
    rw [if_neg c, bd2_s, mT_9, if_neg (by decide)]
    by_cases c2 : A (108 + 7 * sPos A d + 4) = -1
    · have hne : ¬ (sPos A d = -1 ∨ A (108 + 7 * sPos A d + 4) ≠ -1) := by omega
      rw [if_neg hne, if_neg hne, c2, if_pos (by decide : iZ (-1) = (-1 : Int32)), bdq h1, pc_s]
      refine ⟨mT M 0, ?_, mT_9 _ _, QR.mT _ _⟩
      simp (disch := omega) only [mT_21, hA, ↓reduceIte, ↓nm_s, ↓lk_s, ↓pc_s, z_add, z_sub, z_mul, z_neg, z_le, z_lt, z_eq, z_ix, z_vin, z_rem, zc_0, zc_1, zc_2, zc_3, zc_4, zc_5, zc_6, zc_7, zc_8, zc_9, zc_10, zc_12, zc_20, zc_60, zc_80, zc_108, zc_120, zc_185, zc_192, zc_1344, zc_9999, zc_FAR, zc_NEV, ite_T, ite_F, bd_s, bd2_s, rz_z, toNat_cast, mR_at, mR_ne, mu_mR, il_t, il_f, ilt_t, ilt_f, ieq_t, ieq_f, nlt_t]
    · have hne : sPos A d = -1 ∨ A (108 + 7 * sPos A d + 4) ≠ -1 := .inr c2
      rw [if_pos hne, if_pos hne, if_neg (show ¬ (iZ (A (108 + 7 * sPos A d + 4)) = (-1 : Int32)) by rw [zc_m1]; exact ne_z (by omega) (by omega) c2), zc_1, mT_s, bd2_s]
      exact ⟨_, rfl, mT_9 _ _, (QR.mT _ _).tr (QR.mT _ _)⟩
theorem gd_trav {n : Int} {M : Mem} (n0 : 0 ≤ n) (n1 : n ≤ 512) (hR : Rl n M) (x : Int32) {w : Int} {d : Nat} (hw : (w = 5 ∧ d = 5) ∨ (w = 6 ∧ d = 6)) {fL : Option (Int32 × Mem)} {fX : Mem → Option (Int32 × Mem)}
    (h1 : ∀ q r, q < 132 → f_X7_travellingParcel M x = some (.inl q, M) → M 6 q d = r → fL = some (iZ 0, mu M 33 0 0 r)) (h2 : f_X7_travellingParcel M x = some (.inr 3, M) → fL = some (iZ 1, M)) (h3 : ∀ M1 r M2, f_X8_ofTravelling M1 x (iZ w) = some (r, M2) → fX M1 = some (r, M2)) : Gd n fL fX := by
  obtain ⟨a, rfl, ha⟩ := z_mk x
  obtain ⟨A, p, h, hO, hm, hC, hW, hA⟩ := hR.view n0 n1
  have o6 := hO.2.2.2.2.2.1
  have hp := sPos_in hO a
  have e1 := g_travParcel hO hm.lo hW hC ha
  by_cases e : sPos A a = -1 ∨ A (108 + 7 * sPos A a + 4) ≠ -1
  · rw [if_pos e] at e1
    obtain ⟨M2, q1, q2, q3⟩ := g_ofTrav hO hm.lo hA ha (w := w) (by omega) (by omega)
    rw [if_pos e] at q1 q2
    exact gd_no hR (e := 1) (by omega) (by omega) (h2 e1) (QC.rfl' M) ⟨_, M2, h3 _ _ _ q1, q2, q3⟩
  · rw [if_neg e] at e1
    have cl := cl_of hC (k := sPos A a) (by omega) (by omega)
    have hr := hW.1 (sPos A a) (by omega) (by omega)
    have hv : M 6 (ix (M 5 0 (sPos A a).toNat)) d = iZ (A (108 + 7 * sPos A a + w)) := by
      obtain ⟨rfl, rfl⟩ | ⟨rfl, rfl⟩ := hw
      · exact cl.2.2.2.2.2.1
      · exact cl.2.2.2.2.2.2 (by omega)
    obtain ⟨M2, q1, q2, q3⟩ := g_ofTrav hO hm.lo (mu33 (iZ (A (108 + 7 * sPos A a + w))) hA) ha (w := w) (by omega) (by omega)
    rw [if_neg e] at q1 q2
    exact gd_ok hR (h1 _ _ (by omega) e1 hv) (QC.rfl' M) ⟨M2, h3 _ _ _ q1, q2, q3⟩
theorem q_linkOf {n : Int} {M : Mem} (n0 : 0 ≤ n) (n1 : n ≤ 512) (hR : Rl n M) (x : Int32) : Gd n (f_L_linkOf M x) (fun M1 => f_X8_linkOf M1 x) := by
  refine gd_trav n0 n1 hR x (w := 5) (d := 5) (by omega) (fun q r hq e hr => ?_) (fun e => ?_) (fun M1 r M2 e => ?_)
  · unfold f_L_linkOf f_X7_linkOf
    rw [e, bx_l, if_pos hq, bxh_l, nm_s, ← hr]; rfl
  · unfold f_L_linkOf f_X7_linkOf
    rw [e, bx_r, bxh_r]; rfl
  · unfold f_X8_linkOf; rw [zc_5, e, bd2_s]
theorem q_arrivalOf {n : Int} {M : Mem} (n0 : 0 ≤ n) (n1 : n ≤ 512) (hR : Rl n M) (x : Int32) : Gd n (f_L_arrivalOf M x) (fun M1 => f_X8_arrivalOf M1 x) := by
  refine gd_trav n0 n1 hR x (w := 6) (d := 6) (by omega) (fun q r hq e hr => ?_) (fun e => ?_) (fun M1 r M2 e => ?_)
  · unfold f_L_arrivalOf f_X7_arrivalOf
    rw [e, bx_l, if_pos hq, bxh_l, nm_s, ← hr]; rfl
  · unfold f_L_arrivalOf f_X7_arrivalOf
    rw [e, bx_r, bxh_r]; rfl
  · unfold f_X8_arrivalOf; rw [zc_6, e, bd2_s]
