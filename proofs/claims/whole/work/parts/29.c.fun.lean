/-! Doubles and floats. -/
theorem dd_ok : ∀ c, c < 12 → ∀ s, s < 241 → nn64 (FP.ddiv (FP.i2d (nI s)) (FP.i2d (nI (c + 1)))) := by decide +kernel
theorem ff_ok : ∀ c, c < 20 → ∀ s, s < 21 → nn32 (FP.fdiv (FP.i2f (nI s)) (FP.i2f (nI (c + 1)))) ∧ nn64 (FP.f2d (FP.fdiv (FP.i2f (nI s)) (FP.i2f (nI (c + 1))))) ∧ (Op.cmpValue (FP.dcmp (FP.f2d (FP.fdiv (FP.i2f (nI s)) (FP.i2f (nI (c + 1))))) (FP.f2d (FP.fdiv (FP.i2f (nI s)) (FP.i2f (nI (c + 1)))))) .l) = 0 := by decide +kernel
theorem nI_z {z : Int} (h : 0 ≤ z) : iZ z = nI z.toNat := by rw [nI_iZ, Int.toNat_of_nonneg h]
theorem dd_z {s c : Int} (s0 : 0 ≤ s) (s1 : s ≤ 240) (c0 : 1 ≤ c) (c1 : c ≤ 12) : nn64 (FP.ddiv (FP.i2d (iZ s)) (FP.i2d (iZ c))) := by
  have h := dd_ok (c - 1).toNat (by omega) s.toNat (by omega)
  rw [nI_z s0, nI_z (by omega : 0 ≤ c), show c.toNat = (c - 1).toNat + 1 by omega]
  exact h
theorem sStm_in {p h : Int} {A : Int → Int} (hO : Ok p h A) : 0 ≤ sStm A ∧ sStm A ≤ 240 := by
  have o5 := hO.2.2.2.2.1
  have o6 := hO.2.2.2.2.2.1
  have hk : ∀ k, 0 ≤ k → k < A 2 → 0 ≤ A (108 + 7 * k + 3) ∧ A (108 + 7 * k + 3) ≤ 20 := fun k k0 k1 => by
    have := pcl_of hO k0 k1
    unfold pcl at this
    omega
  unfold sStm
  have h1 := sF_nn (f := fun k => A (108 + 7 * k + 3)) (A 2).toNat 0 (fun k k0 k1 => (hk k k0 (by omega)).1)
  have h2 := sF_le (f := fun k => A (108 + 7 * k + 3)) (b := 20) (A 2).toNat 0 (fun k k0 k1 => (hk k k0 (by omega)).2)
  omega
theorem sBlk_in {p h : Int} {A : Int → Int} (hO : Ok p h A) : 0 ≤ sBlk A ∧ sBlk A ≤ 20 := by
  have o3 := hO.2.2.1
  have o4 := hO.2.2.2.1
  have hk : ∀ k, 0 ≤ k → k < A 1 → 0 ≤ A (8 + 5 * k + 4) ∧ A (8 + 5 * k + 4) ≤ 1 := fun k k0 k1 => by
    have := hO.2.2.2.2.2.2.2.2.2.2.2.1 k k0 k1
    unfold lnk at this
    omega
  unfold sBlk
  have h1 := sF_nn (f := fun k => A (8 + 5 * k + 4)) (A 1).toNat 0 (fun k k0 k1 => (hk k k0 (by omega)).1)
  have h2 := sF_le (f := fun k => A (8 + 5 * k + 4)) (b := 1) (A 1).toNat 0 (fun k k0 k1 => (hk k k0 (by omega)).2)
  omega
theorem g_mean_26 {p h : Int} {M : Mem} {A : Int → Int} (hO : Ok p h A) (hA : M 21 0 = rz A) (h1 : 1 ≤ A 2) : ∀ (n f : Nat) (i c : Int), 0 ≤ i → i + n = A 2 → n < f → c + sF (fun k => A (108 + 7 * k + 3)) n i = sStm A → f_X8_meanStamps_26 f M (iZ c) (iZ i) = some (FP.ddiv (FP.i2d (iZ (sStm A))) (FP.i2d (iZ (A 2))), M) := by
  have o6 := hO.2.2.2.2.2.1
  have hs := sStm_in hO
  clear hO
  intro n
  induction n with
  | zero =>
    intro f i c i0 hi hf hc
    obtain ⟨f, rfl⟩ : ∃ g, f = g + 1 := ⟨f - 1, by omega⟩
    have hn := dd_z hs.1 hs.2 h1 o6
    have hc2 : c = sStm A := by rw [← hc]; unfold sF; omega
    subst hc2
    unfold f_X8_meanStamps_26
    rw [hA, rz_2, if_pos (by rw [z_le (by omega) (by omega) (by omega) (by omega)]; omega), if_pos hn]
  | succ n ih =>
    intro f i c i0 hi hf hc
    obtain ⟨f, rfl⟩ : ∃ g, f = g + 1 := ⟨f - 1, by omega⟩
    rw [← ih f (i + 1) (c + A (108 + 7 * i + 3)) (by omega) (by omega) (by omega) (by rw [← hc]; show _ = c + (A (108 + 7 * i + 3) + sF (fun k => A (108 + 7 * k + 3)) n (i + 1)); omega)]
    clear ih hc
    simp (disch := omega) only [f_X8_meanStamps_26, hA, rz_2, ↓reduceIte, ↓nm_s, ↓lk_s, ↓pc_s, z_add, z_sub, z_mul, z_neg, z_le, z_lt, z_eq, z_ix, z_vin, z_rem, zc_0, zc_1, zc_2, zc_3, zc_4, zc_5, zc_6, zc_7, zc_8, zc_9, zc_10, zc_12, zc_20, zc_60, zc_80, zc_108, zc_120, zc_185, zc_192, zc_1344, zc_9999, zc_FAR, zc_NEV, ite_T, ite_F, bd_s, bd2_s, rz_z, toNat_cast, mR_at, mR_ne, mu_mR, il_t, il_f, ilt_t, ilt_f, ieq_t, ieq_f, nlt_t]
theorem q_meanStamps {n : Int} {M : Mem} (n0 : 0 ≤ n) (n1 : n ≤ 512) (hR : Rl n M) : ∃ e M1 r M2, f_L_meanStamps M = some (e, M1) ∧ f_X8_meanStamps M1 = some (r, M2) ∧ M2 20 0 9 = e ∧ (e = iZ 0 → dOf (M2 36 0 0) (M2 36 0 1) = r) ∧ Rl (n + 1) M2 := by
  obtain ⟨A, p, h, hO, hm, hC, hW, hA⟩ := hR.view n0 n1
  have o5 := hO.2.2.2.2.1
  have o6 := hO.2.2.2.2.2.1
  by_cases e : A 2 = 0
  · refine ⟨iZ 1, M, FP.dconst0, mT (mT M 0) 1, ?_, ?_, mT_9 _ _, fun hc => absurd hc (by decide), Rl.qt ((Qt.mT _ _).tr (Qt.mT _ _)) hR⟩
    · unfold f_L_meanStamps f_X7_meanStamps
      rw [hC.2.2.1, e, if_pos (by decide), bxh_r]; rfl
    · unfold f_X8_meanStamps
      rw [nm_s, mu0_mT, mT21 0 hA, rz_2, e, if_pos (by decide), zc_1, mT_s, bd2_s]
  · have hs := sStm_in hO
    have hn := dd_z hs.1 hs.2 (by omega : 1 ≤ A 2) o6
    have hz : ¬ (iZ (A 2) = (0 : Int32)) := by rw [zc_0]; exact ne_z (by omega) (by omega) e
    refine ⟨iZ 0, mu (mu M 36 0 0 (dLo (FP.ddiv (FP.i2d (iZ (sStm A))) (FP.i2d (iZ (A 2)))))) 36 0 1 (dHi (FP.ddiv (FP.i2d (iZ (sStm A))) (FP.i2d (iZ (A 2))))), FP.ddiv (FP.i2d (iZ (sStm A))) (FP.i2d (iZ (A 2))), mT (mu (mu M 36 0 0 (dLo (FP.ddiv (FP.i2d (iZ (sStm A))) (FP.i2d (iZ (A 2)))))) 36 0 1 (dHi (FP.ddiv (FP.i2d (iZ (sStm A))) (FP.i2d (iZ (A 2)))))) 0, ?_, ?_, mT_9 _ _, fun _ => ?_, Rl.qt (fun d i k hd => ?_) hR⟩
    · unfold f_L_meanStamps f_X7_meanStamps
      rw [hC.2.2.1, if_neg hz, bdq (g_sumOfStamps hO hm.lo (by omega) hW hC), if_pos hn, bxh_l, nm_s]; rfl
    · have hA2 : mT (mu (mu M 36 0 0 (dLo (FP.ddiv (FP.i2d (iZ (sStm A))) (FP.i2d (iZ (A 2)))))) 36 0 1 (dHi (FP.ddiv (FP.i2d (iZ (sStm A))) (FP.i2d (iZ (A 2)))))) 0 21 0 = rz A := mT21 0 (by rw [mu_ne _ _ _ (by omega), mu_ne _ _ _ (by omega)]; exact hA)
      unfold f_X8_meanStamps
      rw [nm_s, mu0_mT, hA2, rz_2, if_neg hz, zc_0]
      exact g_mean_26 hO hA2 (by omega) (A 2).toNat FU 0 0 (by omega) (by omega) (by unfold FU; omega) (by rw [Int.zero_add]; rfl)
    · unfold mT
      rw [mu_miss _ _ (by omega), mu_miss _ _ (by omega), mu_hit, mu_miss _ _ (by omega), mu_hit, dOf_eq]
    · unfold mT
      rw [mu_miss _ _ (by omega), mu_miss _ _ (by omega), mu_miss _ _ (by omega)]
theorem q_blockedShare {n : Int} {M : Mem} (n0 : 0 ≤ n) (n1 : n ≤ 512) (hR : Rl n M) : ∃ e M1 r M2, f_L_blockedShare M = some (e, M1) ∧ f_X8_blockedShare M1 = some (r, M2) ∧ M2 20 0 9 = e ∧ (e = iZ 0 → dOf (M2 36 0 0) (M2 36 0 1) = FP.f2d r ∧ nn64 (FP.f2d r) ∧ (Op.cmpValue (FP.dcmp (FP.f2d r) (FP.f2d r)) .l) = 0) ∧ Rl (n + 1) M2 := by
  obtain ⟨A, p, h, hO, hm, hC, hW, hA⟩ := hR.view n0 n1
  have o3 := hO.2.2.1
  have o4 := hO.2.2.2.1
  by_cases e : A 1 = 0
  · refine ⟨iZ 1, M, FP.fconst0, mT (mT M 0) 1, ?_, ?_, mT_9 _ _, fun hc => absurd hc (by decide), Rl.qt ((Qt.mT _ _).tr (Qt.mT _ _)) hR⟩
    · unfold f_L_blockedShare f_X7_blockedShare
      rw [hC.2.1, e, if_pos (by decide), bxh_r]; rfl
    · unfold f_X8_blockedShare
      rw [nm_s, mu0_mT, mT21 0 hA, rz_1, e, if_pos (by decide), zc_1, mT_s, bd2_s]
  · have hs := sBlk_in hO
    have hn := ff_ok (A 1 - 1).toNat (by omega) (sBlk A).toNat (by omega)
    rw [← nI_z hs.1, show (A 1 - 1).toNat + 1 = (A 1).toNat by omega, ← nI_z o3] at hn
    have hz : ¬ (iZ (A 1) = (0 : Int32)) := by rw [zc_0]; exact ne_z (by omega) (by omega) e
    obtain ⟨r, hr⟩ : ∃ r, FP.fdiv (FP.i2f (iZ (sBlk A))) (FP.i2f (iZ (A 1))) = r := ⟨_, rfl⟩
    rw [hr] at hn
    have hA2 : mT (mu (mu M 36 0 0 (dLo (FP.f2d r))) 36 0 1 (dHi (FP.f2d r))) 0 21 0 = rz A := mT21 0 (by rw [mu_ne _ _ _ (by omega), mu_ne _ _ _ (by omega)]; exact hA)
    refine ⟨iZ 0, mu (mu M 36 0 0 (dLo (FP.f2d r))) 36 0 1 (dHi (FP.f2d r)), r, mT (mu (mu M 36 0 0 (dLo (FP.f2d r))) 36 0 1 (dHi (FP.f2d r))) 0, ?_, ?_, mT_9 _ _, fun _ => ⟨?_, hn.2.1, hn.2.2⟩, Rl.qt (fun d i k hd => ?_) hR⟩
    · unfold f_L_blockedShare f_X7_blockedShare
      rw [hC.2.1, if_neg hz, bdq (g_blockedLinks hO hm.lo (by omega) hW hC), hr, if_pos hn.1, bxh_l, if_pos hn.2.1, nm_s]; rfl
    · unfold f_X8_blockedShare
      rw [nm_s, mu0_mT, hA2, rz_1, if_neg hz, bdq (g_X8_blocked hO hm.lo hA2), hr, if_pos hn.1]
    · unfold mT
      rw [mu_miss _ _ (by omega), mu_miss _ _ (by omega), mu_hit, mu_miss _ _ (by omega), mu_hit, dOf_eq]
    · unfold mT
      rw [mu_miss _ _ (by omega), mu_miss _ _ (by omega), mu_miss _ _ (by omega)]
