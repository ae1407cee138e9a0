/-! Questions: hours of links, loads, degrees, waiting parcels. -/
theorem bI_t {c : Prop} [Decidable c] (h : c) : bI c = 1 := if_pos h
theorem bI_f {c : Prop} [Decidable c] (h : ¬ c) : bI c = 0 := if_neg h
theorem ne_z {a b : Int} (ha : i32 a) (hb : i32 b) (h : a ≠ b) : ¬ (iZ a = iZ b) := by unfold i32 at ha hb; rw [z_eq (by omega) (by omega) (by omega) (by omega)]; exact h
theorem n10 : ¬ (iZ 1 = (0 : Int32)) := by decide
theorem mu33 {M : Mem} {A : Int → Int} (v : Int32) (hA : M 21 0 = rz A) : mu M 33 0 0 v 21 0 = rz A := by rw [mu_ne _ _ _ (by omega)]; exact hA
theorem mT21 {M : Mem} {A : Int → Int} (c : Int) (hA : M 21 0 = rz A) : mT M c 21 0 = rz A := by rw [mT_21]; exact hA
theorem g_canLeave {p h : Int} {M : Mem} {s : Nat} {A : Int → Int} (hO : Ok p h A) (hC : Cl M s A) {k t : Int} (k0 : 0 ≤ k) (k1 : k < A 1) (t0 : 0 ≤ t) (t1 : t ≤ 2000000) : f_X1_canLeaveAt M (20 * s + k.toNat) (iZ t) = some (iZ (sOpen A k t)) := by
  have cl := hC.2.2.2.2.2.2.2.2.1 k k0 k1
  have hk := hO.2.2.2.2.2.2.2.2.2.2.2.1 k k0 k1
  have c3 := cl.2.2.2.1
  have c4 := cl.2.2.2.2
  unfold lnk at hk
  have b3 : 0 ≤ A (8 + 5 * k + 3) ∧ A (8 + 5 * k + 3) ≤ 5 := by omega
  have b4 : 0 ≤ A (8 + 5 * k + 4) ∧ A (8 + 5 * k + 4) ≤ 1 := by omega
  clear hO hC cl hk
  unfold sOpen
  by_cases e1 : A (8 + 5 * k + 4) = 0
  · by_cases e2 : t % 6 = A (8 + 5 * k + 3) <;> simp (disch := omega) only [f_X1_canLeaveAt, c3, c4, ↓reduceIte, ↓nm_s, ↓lk_s, ↓pc_s, z_add, z_sub, z_mul, z_neg, z_le, z_lt, z_eq, z_ix, z_vin, z_rem, zc_0, zc_1, zc_2, zc_3, zc_4, zc_5, zc_6, zc_7, zc_8, zc_9, zc_10, zc_12, zc_20, zc_60, zc_80, zc_108, zc_120, zc_185, zc_192, zc_1344, zc_9999, zc_FAR, zc_NEV, ite_T, ite_F, bd_s, bd2_s, rz_z, toNat_cast, mR_at, mR_ne, mu_mR, il_t, il_f, ilt_t, ilt_f, ieq_t, ieq_f, nlt_t]
  · simp (disch := omega) only [f_X1_canLeaveAt, c3, c4, ↓reduceIte, ↓nm_s, ↓lk_s, ↓pc_s, z_add, z_sub, z_mul, z_neg, z_le, z_lt, z_eq, z_ix, z_vin, z_rem, zc_0, zc_1, zc_2, zc_3, zc_4, zc_5, zc_6, zc_7, zc_8, zc_9, zc_10, zc_12, zc_20, zc_60, zc_80, zc_108, zc_120, zc_185, zc_192, zc_1344, zc_9999, zc_FAR, zc_NEV, ite_T, ite_F, bd_s, bd2_s, rz_z, toNat_cast, mR_at, mR_ne, mu_mR, il_t, il_f, ilt_t, ilt_f, ieq_t, ieq_f, nlt_t]
theorem l16_0 (M : Mem) : f_L_isOpenAt_16 M (0 : Int64) = some (iZ 0, mu M 33 0 0 (iZ 0)) := by unfold f_L_isOpenAt_16; rw [if_pos (by decide), nm_s]; rfl
theorem l16_1 (M : Mem) : f_L_isOpenAt_16 M (1 : Int64) = some (iZ 0, mu M 33 0 0 (iZ 1)) := by unfold f_L_isOpenAt_16; rw [if_pos (by decide), nm_s]; rfl
theorem g_thr40 {M : Mem} (a1 a2 : Int32) {c : Int} (c1 : 1 ≤ c) (c9 : c ≤ 9) (h : M 20 0 9 = iZ c) : f_X8_isOpenAt_40 M a1 a2 = some (iZ 0, M) := by
  unfold f_X8_isOpenAt_40
  rw [h, if_neg (by rw [zc_0, z_eq (by omega) (by omega) (by omega) (by omega)]; omega)]; rfl
theorem q_isOpenAt {n : Int} {M : Mem} (n0 : 0 ≤ n) (n1 : n ≤ 512) (hR : Rl n M) (x y : Int32) : GdB n (f_L_isOpenAt M x y) (fun M1 => f_X8_isOpenAt M1 x y) := by
  obtain ⟨a, rfl, ha⟩ := z_mk x
  obtain ⟨t, rfl, ht⟩ := z_mk y
  obtain ⟨A, p, h, hO, hm, hC, hW, hA⟩ := hR.view n0 n1
  have o4 := hO.2.2.2.1
  have e1 := g_exLink hO hC ha
  have e2 := g_reqHr M ht
  by_cases e : 0 ≤ a ∧ a < A 1
  · rw [if_pos e] at e1
    by_cases e3 : 0 ≤ t ∧ t ≤ 9999
    · rw [if_pos e3] at e2
      have h3 := g_canLeave hO hC e.1 e.2 e3.1 (by omega)
      have hb := sOpen_c A a t
      refine gdb_ok hR (M1 := M) hb ?_ (QC.rfl' M) ⟨mT (mu M 33 0 0 (iZ (sOpen A a t))) 0, ?_, mT_9 _ _, QR.mT _ _⟩
      · unfold f_L_isOpenAt f_X7_isOpenAt
        rw [e1, bx_l, if_pos (by omega), e2, bx_l, bdq h3, if_pos (isB_z (by omega) (by omega)), bxh_l]
        obtain h0 | h0 := hb
        · rw [h0, if_pos (by decide)]; exact l16_0 M
        · rw [h0, if_neg n10]; exact l16_1 M
      · show f_X8_isOpenAt _ _ _ = _
        have hA2 := mT21 0 (mu33 (iZ (sOpen A a t)) hA)
        unfold f_X8_isOpenAt
        rw [nm_s, mu0_mT, bdq (g_X8_isLink hO hA2 ha), bI_t e, if_neg n10, c64_0, c64_9999, bdq (g_X8_in _ ht (by omega : i32 0) (by omega : i32 9999)), bI_t e3, if_neg n10]
        unfold f_X8_isOpenAt_40
        rw [mT_9, if_pos (by decide), bdq (g_X8_isOpen hO hA2 e.1 e.2 e3.1 (by omega))]
        obtain h0 | h0 := hb
        · rw [h0, if_pos (by decide)]; rfl
        · rw [h0, if_neg n10]; rfl
    · rw [if_neg e3] at e2
      refine gdb_no hR (M1 := M) (e := 2) (by omega) (by omega) ?_ (QC.rfl' M) ⟨0, mT (mT M 0) 2, ?_, mT_9 _ _, (QR.mT _ _).tr (QR.mT _ _)⟩
      · unfold f_L_isOpenAt f_X7_isOpenAt
        rw [e1, bx_l, if_pos (by omega), e2, bx_r, bxh_r]; rfl
      · show f_X8_isOpenAt _ _ _ = _
        unfold f_X8_isOpenAt
        rw [nm_s, mu0_mT, bdq (g_X8_isLink hO (mT21 0 hA) ha), bI_t e, if_neg n10, c64_0, c64_9999, bdq (g_X8_in _ ht (by omega : i32 0) (by omega : i32 9999)), bI_f e3, if_pos (by decide), zc_2, mT_s, bd2_s]
        exact g_thr40 _ _ (c := 2) (by omega) (by omega) (mT_9 _ _)
  · rw [if_neg e] at e1
    refine gdb_no hR (M1 := M) (e := 1) (by omega) (by omega) ?_ (QC.rfl' M) ⟨0, mT (mT M 0) 1, ?_, mT_9 _ _, (QR.mT _ _).tr (QR.mT _ _)⟩
    · unfold f_L_isOpenAt f_X7_isOpenAt
      rw [e1, bx_r, bxh_r]; rfl
    · show f_X8_isOpenAt _ _ _ = _
      unfold f_X8_isOpenAt
      rw [nm_s, mu0_mT, bdq (g_X8_isLink hO (mT21 0 hA) ha), bI_f e, if_pos (by decide), zc_1, mT_s, bd2_s]
      exact g_thr40 _ _ (c := 1) (by omega) (by omega) (mT_9 _ _)
theorem q_loadOf {n : Int} {M : Mem} (n0 : 0 ≤ n) (n1 : n ≤ 512) (hR : Rl n M) (x : Int32) : Gd n (f_L_loadOf M x) (fun M1 => f_X8_loadOf M1 x) := by
  obtain ⟨a, rfl, ha⟩ := z_mk x
  obtain ⟨A, p, h, hO, hm, hC, hW, hA⟩ := hR.view n0 n1
  have o3 := hO.2.2.1
  have o4 := hO.2.2.2.1
  have e1 := g_reqIx M ha (b := A 1) (by omega)
  by_cases e : 0 ≤ a ∧ a < A 1
  · rw [if_pos e] at e1
    refine gd_ok hR (M1 := M) (r := iZ (sLoad A a)) ?_ (QC.rfl' M) ⟨mT (mu M 33 0 0 (iZ (sLoad A a))) 0, ?_, mT_9 _ _, QR.mT _ _⟩
    · unfold f_L_loadOf f_X7_loadOf
      rw [hC.2.1, e1, bx_l, bdq (g_weightOn hO hm.lo (by omega) hW hC (by omega) (by omega)), bxh_l, nm_s]; rfl
    · show f_X8_loadOf _ _ = _
      unfold f_X8_loadOf
      rw [nm_s, mu0_mT, bdq (g_X8_isLink hO (mT21 0 (mu33 _ hA)) ha), bI_t e, if_neg n10, bdq (g_X8_load hO hm.lo (mT21 0 (mu33 _ hA)) e.1 (by omega))]
  · rw [if_neg e] at e1
    refine gd_no hR (M1 := M) (e := 1) (by omega) (by omega) ?_ (QC.rfl' M) ⟨iZ (-1), mT (mT M 0) 1, ?_, mT_9 _ _, (QR.mT _ _).tr (QR.mT _ _)⟩
    · unfold f_L_loadOf f_X7_loadOf
      rw [hC.2.1, e1, bx_r, bxh_r]; rfl
    · show f_X8_loadOf _ _ = _
      unfold f_X8_loadOf
      rw [nm_s, mu0_mT, bdq (g_X8_isLink hO (mT21 0 hA) ha), bI_f e, if_pos (by decide), zc_1, mT_s, bd2_s]
theorem q_degree {n : Int} {M : Mem} (n0 : 0 ≤ n) (n1 : n ≤ 512) (hR : Rl n M) (x : Int32) : Gd n (f_L_degree M x) (fun M1 => f_X8_degree M1 x) := by
  obtain ⟨a, rfl, ha⟩ := z_mk x
  obtain ⟨A, p, h, hO, hm, hC, hW, hA⟩ := hR.view n0 n1
  have o1 := hO.1
  have o2 := hO.2.1
  have e1 := g_reqIx M ha (b := A 0) (by omega)
  by_cases e : 0 ≤ a ∧ a < A 0
  · rw [if_pos e] at e1
    refine gd_ok hR (M1 := M) (r := iZ (sDeg A a)) ?_ (QC.rfl' M) ⟨mT (mu M 33 0 0 (iZ (sDeg A a))) 0, ?_, mT_9 _ _, QR.mT _ _⟩
    · unfold f_L_degree f_X7_degree
      rw [hC.1, e1, bx_l, bdq (g_linksAt hO hm.lo (by omega) hW hC (by omega) (by omega)), bxh_l, nm_s]; rfl
    · show f_X8_degree _ _ = _
      unfold f_X8_degree
      rw [nm_s, mu0_mT, bdq (g_X8_isPlace hO (mT21 0 (mu33 _ hA)) ha), bI_t e, if_neg n10]
      exact g_X8_degree_s hO hm.lo (mT21 0 (mu33 _ hA)) e.1 (by omega)
  · rw [if_neg e] at e1
    refine gd_no hR (M1 := M) (e := 1) (by omega) (by omega) ?_ (QC.rfl' M) ⟨iZ (-1), mT (mT M 0) 1, ?_, mT_9 _ _, (QR.mT _ _).tr (QR.mT _ _)⟩
    · unfold f_L_degree f_X7_degree
      rw [hC.1, e1, bx_r, bxh_r]; rfl
    · show f_X8_degree _ _ = _
      unfold f_X8_degree
      rw [nm_s, mu0_mT, bdq (g_X8_isPlace hO (mT21 0 hA) ha), bI_f e, if_pos (by decide), zc_1, mT_s, bd2_s]
theorem q_waitingIn {n : Int} {M : Mem} (n0 : 0 ≤ n) (n1 : n ≤ 512) (hR : Rl n M) (x : Int32) : Gd n (f_L_waitingIn M x) (fun M1 => f_X8_waitingIn M1 x) := by
  obtain ⟨a, rfl, ha⟩ := z_mk x
  obtain ⟨A, p, h, hO, hm, hC, hW, hA⟩ := hR.view n0 n1
  have o1 := hO.1
  have o2 := hO.2.1
  have e1 := g_reqIx M ha (b := A 0) (by omega)
  by_cases e : 0 ≤ a ∧ a < A 0
  · rw [if_pos e] at e1
    refine gd_ok hR (M1 := M) (r := iZ (sWait A a)) ?_ (QC.rfl' M) ⟨mT (mu M 33 0 0 (iZ (sWait A a))) 0, ?_, mT_9 _ _, QR.mT _ _⟩
    · unfold f_L_waitingIn f_X7_waitingIn
      rw [hC.1, e1, bx_l, bdq (g_parcelsWaitingIn hO hm.lo (by omega) hW hC (by omega) (by omega)), bxh_l, nm_s]; rfl
    · show f_X8_waitingIn _ _ = _
      unfold f_X8_waitingIn
      rw [nm_s, mu0_mT, bdq (g_X8_isPlace hO (mT21 0 (mu33 _ hA)) ha), bI_t e, if_neg n10]
      exact g_X8_waitingIn_s hO hm.lo (mT21 0 (mu33 _ hA)) e.1 (by omega)
  · rw [if_neg e] at e1
    refine gd_no hR (M1 := M) (e := 1) (by omega) (by omega) ?_ (QC.rfl' M) ⟨iZ (-1), mT (mT M 0) 1, ?_, mT_9 _ _, (QR.mT _ _).tr (QR.mT _ _)⟩
    · unfold f_L_waitingIn f_X7_waitingIn
      rw [hC.1, e1, bx_r, bxh_r]; rfl
    · show f_X8_waitingIn _ _ = _
      unfold f_X8_waitingIn
      rw [nm_s, mu0_mT, bdq (g_X8_isPlace hO (mT21 0 hA) ha), bI_f e, if_pos (by decide), zc_1, mT_s, bd2_s]
theorem q_arrivalsWithin {n : Int} {M : Mem} (n0 : 0 ≤ n) (n1 : n ≤ 512) (hR : Rl n M) (x : Int32) : Gd n (f_L_arrivalsWithin M x) (fun M1 => f_X8_arrivalsWithin M1 x) := by
  obtain ⟨a, rfl, ha⟩ := z_mk x
  obtain ⟨A, p, h, hO, hm, hC, hW, hA⟩ := hR.view n0 n1
  have e1 : f_X7_requireBetween M (iZ a) (1 : Int32) (120 : Int32) = _ := g_reqBe M ha (by omega : i32 1) (by omega : i32 120)
  by_cases e : 1 ≤ a ∧ a ≤ 120
  · rw [if_pos e] at e1
    refine gd_ok hR (M1 := M) (r := iZ (sArr A a)) ?_ (QC.rfl' M) ⟨mT (mu M 33 0 0 (iZ (sArr A a))) 0, ?_, mT_9 _ _, QR.mT _ _⟩
    · unfold f_L_arrivalsWithin f_X7_arrivalsWithin
      rw [e1, bx_l, bdq (g_parcelsArrivingWithin hO hm.lo (by omega) hW hC e.1 e.2), bxh_l, nm_s]; rfl
    · show f_X8_arrivalsWithin _ _ = _
      unfold f_X8_arrivalsWithin
      rw [nm_s, mu0_mT, c64_1, c64_120, bdq (g_X8_in _ ha (by omega : i32 1) (by omega : i32 120)), bI_t e, if_neg n10]
      exact g_X8_arrivalsWithin_s hO hm.lo (mT21 0 (mu33 _ hA)) e.1 e.2
  · rw [if_neg e] at e1
    refine gd_no hR (M1 := M) (e := 1) (by omega) (by omega) ?_ (QC.rfl' M) ⟨iZ (-1), mT (mT M 0) 1, ?_, mT_9 _ _, (QR.mT _ _).tr (QR.mT _ _)⟩
    · unfold f_L_arrivalsWithin f_X7_arrivalsWithin
      rw [e1, bx_r, bxh_r]; rfl
    · show f_X8_arrivalsWithin _ _ = _
      unfold f_X8_arrivalsWithin
      rw [nm_s, mu0_mT, c64_1, c64_120, bdq (g_X8_in _ ha (by omega : i32 1) (by omega : i32 120)), bI_f e, if_pos (by decide), zc_1, mT_s, bd2_s]
/-- the heaviest -/
def bst (f : Int → Int) : Nat → Int → Int → Int
  | 0, _, b => b
  | n + 1, i, b => bst f n (i + 1) (if f b < f i then i else b)
theorem g_heavy_6 {p h : Int} {M : Mem} {A : Int → Int} (hO : Ok p h A) (hm : Rm p h) (hR : Rw M 0) (hC : Cl M 0 A) : ∀ (n f : Nat) (i b : Int), 0 ≤ i → i + n = A 1 → 0 ≤ b → b < 20 → n < f → f_X5_heaviestLink_6 M f 0 (iZ b) (iZ (sLoad A b)) (iZ i) = some (iZ (bst (sLoad A) n i b)) := by
  have o4 := hO.2.2.2.1
  have c1 := hC.2.1
  intro n
  induction n with
  | zero =>
    intro f i b i0 hi b0 b1 hf
    obtain ⟨f, rfl⟩ : ∃ g, f = g + 1 := ⟨f - 1, by omega⟩
    clear hO hC hR
    simp (disch := omega) only [f_X5_heaviestLink_6, c1, bst, ↓reduceIte, ↓nm_s, ↓lk_s, ↓pc_s, z_add, z_sub, z_mul, z_neg, z_le, z_lt, z_eq, z_ix, z_vin, z_rem, zc_0, zc_1, zc_2, zc_3, zc_4, zc_5, zc_6, zc_7, zc_8, zc_9, zc_10, zc_12, zc_20, zc_60, zc_80, zc_108, zc_120, zc_185, zc_192, zc_1344, zc_9999, zc_FAR, zc_NEV, ite_T, ite_F, bd_s, bd2_s, rz_z, toNat_cast, mR_at, mR_ne, mu_mR, il_t, il_f, ilt_t, ilt_f, ieq_t, ieq_f, nlt_t]
  | succ n ih =>
    intro f i b i0 hi b0 b1 hf
    obtain ⟨f, rfl⟩ : ∃ g, f = g + 1 := ⟨f - 1, by omega⟩
    have hw := g_weightOn hO hm (by omega) hR hC (l := i) (by omega) (by omega)
    have s1 := sLoad_nn hO i
    have s2 := sLoad_nn hO b
    have i1 := ih f (i + 1) i (by omega) (by omega) i0 (by omega) (by omega)
    have i2 := ih f (i + 1) b (by omega) (by omega) b0 b1 (by omega)
    clear hO hC hR ih
    unfold bst
    by_cases hb : sLoad A b < sLoad A i
    · rw [if_pos hb, ← i1]
      simp (disch := omega) only [f_X5_heaviestLink_6, f_X5_heaviestLink_35, c1, ↓bdq hw, ↓reduceIte, ↓nm_s, ↓lk_s, ↓pc_s, z_add, z_sub, z_mul, z_neg, z_le, z_lt, z_eq, z_ix, z_vin, z_rem, zc_0, zc_1, zc_2, zc_3, zc_4, zc_5, zc_6, zc_7, zc_8, zc_9, zc_10, zc_12, zc_20, zc_60, zc_80, zc_108, zc_120, zc_185, zc_192, zc_1344, zc_9999, zc_FAR, zc_NEV, ite_T, ite_F, bd_s, bd2_s, rz_z, toNat_cast, mR_at, mR_ne, mu_mR, il_t, il_f, ilt_t, ilt_f, ieq_t, ieq_f, nlt_t]
    · rw [if_neg hb, ← i2]
      simp (disch := omega) only [f_X5_heaviestLink_6, f_X5_heaviestLink_35, c1, ↓bdq hw, ↓reduceIte, ↓nm_s, ↓lk_s, ↓pc_s, z_add, z_sub, z_mul, z_neg, z_le, z_lt, z_eq, z_ix, z_vin, z_rem, zc_0, zc_1, zc_2, zc_3, zc_4, zc_5, zc_6, zc_7, zc_8, zc_9, zc_10, zc_12, zc_20, zc_60, zc_80, zc_108, zc_120, zc_185, zc_192, zc_1344, zc_9999, zc_FAR, zc_NEV, ite_T, ite_F, bd_s, bd2_s, rz_z, toNat_cast, mR_at, mR_ne, mu_mR, il_t, il_f, ilt_t, ilt_f, ieq_t, ieq_f, nlt_t]
theorem g_heavy {p h : Int} {M : Mem} {A : Int → Int} (hO : Ok p h A) (hm : Rm p h) (hR : Rw M 0) (hC : Cl M 0 A) (h1 : 1 ≤ A 1) : f_X5_heaviestLink M 0 = some (iZ (bst (sLoad A) (A 1 - 1).toNat 1 0)) := by
  have o4 := hO.2.2.2.1
  have c1 := hC.2.1
  have hw := g_weightOn hO hm (by omega) hR hC (l := 0) (by omega) (by omega)
  have s1 := sLoad_nn hO 0
  obtain ⟨g, hg, hgg⟩ : ∃ g, FU = g + 1 ∧ 30 ≤ g := ⟨4999, rfl, by omega⟩
  have i1 := g_heavy_6 hO hm hR hC (A 1 - 1).toNat g 1 0 (by omega) (by omega) (by omega) (by omega) (by omega)
  clear hO hC hR
  rw [← i1]
  unfold f_X5_heaviestLink
  rw [hg]
  by_cases hb : 0 < sLoad A 0
  · simp (disch := omega) only [f_X5_heaviestLink_6, f_X5_heaviestLink_35, c1, ↓bdq hw, ↓reduceIte, ↓nm_s, ↓lk_s, ↓pc_s, z_add, z_sub, z_mul, z_neg, z_le, z_lt, z_eq, z_ix, z_vin, z_rem, zc_0, zc_1, zc_2, zc_3, zc_4, zc_5, zc_6, zc_7, zc_8, zc_9, zc_10, zc_12, zc_20, zc_60, zc_80, zc_108, zc_120, zc_185, zc_192, zc_1344, zc_9999, zc_FAR, zc_NEV, ite_T, ite_F, bd_s, bd2_s, rz_z, toNat_cast, mR_at, mR_ne, mu_mR, il_t, il_f, ilt_t, ilt_f, ieq_t, ieq_f, nlt_t]
    rfl
  · have h0 : sLoad A 0 = 0 := by omega
    rw [h0] at hw ⊢
    simp (disch := omega) only [f_X5_heaviestLink_6, f_X5_heaviestLink_35, c1, ↓bdq hw, ↓reduceIte, ↓nm_s, ↓lk_s, ↓pc_s, z_add, z_sub, z_mul, z_neg, z_le, z_lt, z_eq, z_ix, z_vin, z_rem, zc_0, zc_1, zc_2, zc_3, zc_4, zc_5, zc_6, zc_7, zc_8, zc_9, zc_10, zc_12, zc_20, zc_60, zc_80, zc_108, zc_120, zc_185, zc_192, zc_1344, zc_9999, zc_FAR, zc_NEV, ite_T, ite_F, bd_s, bd2_s, rz_z, toNat_cast, mR_at, mR_ne, mu_mR, il_t, il_f, ilt_t, ilt_f, ieq_t, ieq_f, nlt_t]
    rw [Int.zero_add]
theorem g_busy_24 {p h : Int} {M : Mem} {A : Int → Int} (hO : Ok p h A) (hm : Rm p h) (hA : M 21 0 = rz A) : ∀ (n f : Nat) (i b : Int), 0 ≤ i → i + n = A 1 → 0 ≤ b → b < 20 → n < f → f_X8_busiestLink_24 f M (iZ b) (iZ i) = some (iZ (bst (sLoad A) n i b), M) := by
  have o4 := hO.2.2.2.1
  intro n
  induction n with
  | zero =>
    intro f i b i0 hi b0 b1 hf
    obtain ⟨f, rfl⟩ : ∃ g, f = g + 1 := ⟨f - 1, by omega⟩
    clear hO
    simp (disch := omega) only [f_X8_busiestLink_24, hA, rz_1, bst, ↓reduceIte, ↓nm_s, ↓lk_s, ↓pc_s, z_add, z_sub, z_mul, z_neg, z_le, z_lt, z_eq, z_ix, z_vin, z_rem, zc_0, zc_1, zc_2, zc_3, zc_4, zc_5, zc_6, zc_7, zc_8, zc_9, zc_10, zc_12, zc_20, zc_60, zc_80, zc_108, zc_120, zc_185, zc_192, zc_1344, zc_9999, zc_FAR, zc_NEV, ite_T, ite_F, bd_s, bd2_s, rz_z, toNat_cast, mR_at, mR_ne, mu_mR, il_t, il_f, ilt_t, ilt_f, ieq_t, ieq_f, nlt_t]
  | succ n ih =>
    intro f i b i0 hi b0 b1 hf
    obtain ⟨f, rfl⟩ : ∃ g, f = g + 1 := ⟨f - 1, by omega⟩
    have hw := g_X8_load hO hm hA (l := i) (by omega) (by omega)
    have hv := g_X8_load hO hm hA (l := b) (by omega) (by omega)
    have s1 := sLoad_nn hO i
    have s2 := sLoad_nn hO b
    have i1 := ih f (i + 1) i (by omega) (by omega) i0 (by omega) (by omega)
    have i2 := ih f (i + 1) b (by omega) (by omega) b0 b1 (by omega)
    clear hO ih
    unfold bst
    by_cases hb : sLoad A b < sLoad A i
    · rw [if_pos hb, ← i1]
      simp (disch := omega) only [f_X8_busiestLink_24, f_X8_busiestLink_52, hA, rz_1, ↓bdq hw, ↓bdq hv, ↓reduceIte, ↓nm_s, ↓lk_s, ↓pc_s, z_add, z_sub, z_mul, z_neg, z_le, z_lt, z_eq, z_ix, z_vin, z_rem, zc_0, zc_1, zc_2, zc_3, zc_4, zc_5, zc_6, zc_7, zc_8, zc_9, zc_10, zc_12, zc_20, zc_60, zc_80, zc_108, zc_120, zc_185, zc_192, zc_1344, zc_9999, zc_FAR, zc_NEV, ite_T, ite_F, bd_s, bd2_s, rz_z, toNat_cast, mR_at, mR_ne, mu_mR, il_t, il_f, ilt_t, ilt_f, ieq_t, ieq_f, nlt_t]
    · rw [if_neg hb, ← i2]
      simp (disch := omega) only [f_X8_busiestLink_24, f_X8_busiestLink_52, hA, rz_1, ↓bdq hw, ↓bdq hv, ↓reduceIte, ↓nm_s, ↓lk_s, ↓pc_s, z_add, z_sub, z_mul, z_neg, z_le, z_lt, z_eq, z_ix, z_vin, z_rem, zc_0, zc_1, zc_2, zc_3, zc_4, zc_5, zc_6, zc_7, zc_8, zc_9, zc_10, zc_12, zc_20, zc_60, zc_80, zc_108, zc_120, zc_185, zc_192, zc_1344, zc_9999, zc_FAR, zc_NEV, ite_T, ite_F, bd_s, bd2_s, rz_z, toNat_cast, mR_at, mR_ne, mu_mR, il_t, il_f, ilt_t, ilt_f, ieq_t, ieq_f, nlt_t]
theorem q_busiestLink {n : Int} {M : Mem} (n0 : 0 ≤ n) (n1 : n ≤ 512) (hR : Rl n M) : Gd n (f_L_busiestLink M) f_X8_busiestLink := by
  obtain ⟨A, p, h, hO, hm, hC, hW, hA⟩ := hR.view n0 n1
  have o3 := hO.2.2.1
  have o4 := hO.2.2.2.1
  by_cases e : A 1 = 0
  · refine gd_no hR (M1 := M) (e := 1) (by omega) (by omega) ?_ (QC.rfl' M) ⟨iZ (-1), mT (mT M 0) 1, ?_, mT_9 _ _, (QR.mT _ _).tr (QR.mT _ _)⟩
    · unfold f_L_busiestLink f_X7_busiestLink
      rw [hC.2.1, e, if_pos (by decide), bxh_r]; rfl
    · unfold f_X8_busiestLink
      rw [nm_s, mu0_mT, mT21 0 hA, rz_1, e, if_pos (by decide), zc_1, mT_s, bd2_s]
  · have hn : ¬ (iZ (A 1) = (0 : Int32)) := by rw [zc_0, z_eq (by omega) (by omega) (by omega) (by omega)]; exact e
    refine gd_ok hR (M1 := M) (r := iZ (bst (sLoad A) (A 1 - 1).toNat 1 0)) ?_ (QC.rfl' M) ⟨mT (mu M 33 0 0 _) 0, ?_, mT_9 _ _, QR.mT _ _⟩
    · unfold f_L_busiestLink f_X7_busiestLink
      rw [hC.2.1, if_neg hn, bdq (g_heavy hO hm.lo hW hC (by omega)), bxh_l, nm_s]; rfl
    · unfold f_X8_busiestLink
      rw [nm_s, mu0_mT, mT21 0 (mu33 _ hA), rz_1, if_neg hn]
      exact g_busy_24 hO hm.lo (mT21 0 (mu33 _ hA)) (A 1 - 1).toNat FU 1 0 (by omega) (by omega) (by omega) (by omega) (by unfold FU; omega)
