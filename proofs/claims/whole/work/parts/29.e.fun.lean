theorem g_ahead_4 {M : Mem} {F : Int → Int} {P k : Int} (h3 : M 1 0 3 = iZ P) (hF : M 18 0 = rz F) (P0 : 0 ≤ P) (P1 : P ≤ 12) (hb : ∀ i, 0 ≤ i → i < P → 0 ≤ F i ∧ F i ≤ 2147483647) (k0 : 0 ≤ k) (k1 : k < P) : ∀ (n f : Nat) (i c : Int), 0 ≤ i → i + n = P → n < f → f_X7_parcelsAhead_4 M f (iZ k) (iZ c) (iZ i) = some (iZ (c + sF (bfT F k) n i)) := by
  have bk := hb k k0 k1
  intro n
  induction n with
  | zero =>
    intro f i c i0 hi hf
    obtain ⟨f, rfl⟩ : ∃ g, f = g + 1 := ⟨f - 1, by omega⟩
    clear hb
    simp (disch := omega) only [f_X7_parcelsAhead_4, h3, sF, ↓reduceIte, ↓nm_s, ↓lk_s, ↓pc_s, z_add, z_sub, z_mul, z_neg, z_le, z_lt, z_eq, z_ix, z_vin, z_rem, zc_0, zc_1, zc_2, zc_3, zc_4, zc_5, zc_6, zc_7, zc_8, zc_9, zc_10, zc_12, zc_20, zc_60, zc_80, zc_108, zc_120, zc_185, zc_192, zc_1344, zc_9999, zc_FAR, zc_NEV, ite_T, ite_F, bd_s, bd2_s, rz_z, toNat_cast, mR_at, mR_ne, mu_mR, il_t, il_f, ilt_t, ilt_f, ieq_t, ieq_f, nlt_t]
    rw [Int.add_zero]
  | succ n ih =>
    intro f i c i0 hi hf
    obtain ⟨f, rfl⟩ : ∃ g, f = g + 1 := ⟨f - 1, by omega⟩
    have bi := hb i i0 (by omega)
    have h1 := ih f (i + 1) c (by omega) (by omega) (by omega)
    have h2 := ih f (i + 1) (c + 1) (by omega) (by omega) (by omega)
    clear hb ih
    unfold sF
    by_cases c1 : F i < F k
    · rw [show bfT F k i = 1 by unfold bfT; rw [if_pos c1], ← Int.add_assoc, ← h2]
      simp (disch := omega) only [f_X7_parcelsAhead_4, f_X7_parcelsAhead_39, f_X7_parcelsAhead_40, f_X7_parcelsAhead_62, f_X7_parcelsAhead_65, h3, hF, ↓reduceIte, ↓nm_s, ↓lk_s, ↓pc_s, z_add, z_sub, z_mul, z_neg, z_le, z_lt, z_eq, z_ix, z_vin, z_rem, zc_0, zc_1, zc_2, zc_3, zc_4, zc_5, zc_6, zc_7, zc_8, zc_9, zc_10, zc_12, zc_20, zc_60, zc_80, zc_108, zc_120, zc_185, zc_192, zc_1344, zc_9999, zc_FAR, zc_NEV, ite_T, ite_F, bd_s, bd2_s, rz_z, toNat_cast, mR_at, mR_ne, mu_mR, il_t, il_f, ilt_t, ilt_f, ieq_t, ieq_f, nlt_t]
    · by_cases c2 : F i = F k ∧ i < k
      · rw [show bfT F k i = 1 by unfold bfT; rw [if_neg c1, if_pos c2], ← Int.add_assoc, ← h2]
        simp (disch := omega) only [f_X7_parcelsAhead_4, f_X7_parcelsAhead_39, f_X7_parcelsAhead_40, f_X7_parcelsAhead_62, f_X7_parcelsAhead_65, h3, hF, ↓reduceIte, ↓nm_s, ↓lk_s, ↓pc_s, z_add, z_sub, z_mul, z_neg, z_le, z_lt, z_eq, z_ix, z_vin, z_rem, zc_0, zc_1, zc_2, zc_3, zc_4, zc_5, zc_6, zc_7, zc_8, zc_9, zc_10, zc_12, zc_20, zc_60, zc_80, zc_108, zc_120, zc_185, zc_192, zc_1344, zc_9999, zc_FAR, zc_NEV, ite_T, ite_F, bd_s, bd2_s, rz_z, toNat_cast, mR_at, mR_ne, mu_mR, il_t, il_f, ilt_t, ilt_f, ieq_t, ieq_f, nlt_t]
      · rw [show bfT F k i = 0 by unfold bfT; rw [if_neg c1, if_neg c2], Int.zero_add, ← h1]
        by_cases c3 : F i = F k
        · simp (disch := omega) only [f_X7_parcelsAhead_4, f_X7_parcelsAhead_39, f_X7_parcelsAhead_40, f_X7_parcelsAhead_62, f_X7_parcelsAhead_65, h3, hF, ↓reduceIte, ↓nm_s, ↓lk_s, ↓pc_s, z_add, z_sub, z_mul, z_neg, z_le, z_lt, z_eq, z_ix, z_vin, z_rem, zc_0, zc_1, zc_2, zc_3, zc_4, zc_5, zc_6, zc_7, zc_8, zc_9, zc_10, zc_12, zc_20, zc_60, zc_80, zc_108, zc_120, zc_185, zc_192, zc_1344, zc_9999, zc_FAR, zc_NEV, ite_T, ite_F, bd_s, bd2_s, rz_z, toNat_cast, mR_at, mR_ne, mu_mR, il_t, il_f, ilt_t, ilt_f, ieq_t, ieq_f, nlt_t]
        · simp (disch := omega) only [f_X7_parcelsAhead_4, f_X7_parcelsAhead_39, f_X7_parcelsAhead_40, f_X7_parcelsAhead_62, f_X7_parcelsAhead_65, h3, hF, ↓reduceIte, ↓nm_s, ↓lk_s, ↓pc_s, z_add, z_sub, z_mul, z_neg, z_le, z_lt, z_eq, z_ix, z_vin, z_rem, zc_0, zc_1, zc_2, zc_3, zc_4, zc_5, zc_6, zc_7, zc_8, zc_9, zc_10, zc_12, zc_20, zc_60, zc_80, zc_108, zc_120, zc_185, zc_192, zc_1344, zc_9999, zc_FAR, zc_NEV, ite_T, ite_F, bd_s, bd2_s, rz_z, toNat_cast, mR_at, mR_ne, mu_mR, il_t, il_f, ilt_t, ilt_f, ieq_t, ieq_f, nlt_t]
theorem g_posRank_2 {M : Mem} {F : Int → Int} {P r : Int} (h3 : M 1 0 3 = iZ P) (hF : M 18 0 = rz F) (P0 : 0 ≤ P) (P1 : P ≤ 12) (hb : ∀ i, 0 ≤ i → i < P → 0 ≤ F i ∧ F i ≤ 2147483647) (hr : i32 r) : ∀ (n f : Nat) (k : Int), 0 ≤ k → k + n = P → n < f → f_X7_positionOfRank_2 M f (iZ r) (iZ k) = some (iZ (if fF (fun k => bef F P k = r) n k = -1 then 0 else fF (fun k => bef F P k = r) n k)) := by
  intro n
  induction n with
  | zero =>
    intro f k k0 hk hf
    obtain ⟨f, rfl⟩ : ∃ g, f = g + 1 := ⟨f - 1, by omega⟩
    unfold fF
    rw [if_pos (by decide)]
    clear hb
    simp (disch := omega) only [f_X7_positionOfRank_2, h3, ↓reduceIte, ↓nm_s, ↓lk_s, ↓pc_s, z_add, z_sub, z_mul, z_neg, z_le, z_lt, z_eq, z_ix, z_vin, z_rem, zc_0, zc_1, zc_2, zc_3, zc_4, zc_5, zc_6, zc_7, zc_8, zc_9, zc_10, zc_12, zc_20, zc_60, zc_80, zc_108, zc_120, zc_185, zc_192, zc_1344, zc_9999, zc_FAR, zc_NEV, ite_T, ite_F, bd_s, bd2_s, rz_z, toNat_cast, mR_at, mR_ne, mu_mR, il_t, il_f, ilt_t, ilt_f, ieq_t, ieq_f, nlt_t]
  | succ n ih =>
    intro f k k0 hk hf
    obtain ⟨f, rfl⟩ : ∃ g, f = g + 1 := ⟨f - 1, by omega⟩
    have h1 := g_ahead_4 h3 hF P0 P1 hb k0 (by omega : k < P) P.toNat FU 0 0 (by omega) (by omega) (by unfold FU; omega)
    rw [Int.zero_add] at h1
    have h2 : f_X7_parcelsAhead M (iZ k) = some (iZ (bef F P k)) := h1
    have h4 := bef_in F k0 (by omega : k < P)
    have h5 := ih f (k + 1) (by omega) (by omega) (by omega)
    unfold f_X7_positionOfRank_2
    rw [h3, if_neg (by rw [z_le (by omega) (by omega) (by omega) (by omega)]; omega), bdq h2]
    by_cases c : bef F P k = r
    · rw [fF_t (c := fun k => bef F P k = r) c, if_neg (show ¬ k = -1 by omega), if_pos (show iZ (bef F P k) = iZ r by rw [c])]
    · rw [fF_f (c := fun k => bef F P k = r) c, ← h5, if_neg (ne_z (by omega) hr c), zc_1, z_add]
theorem g_pbf_27 {p h : Int} {A : Int → Int} (hO : Ok p h A) (hm : Rm p h) (r : Int32) : ∀ (n f : Nat) (M : Mem) (F : Int → Int) (i : Int), Cl M 0 A → Rw M 0 → M 18 0 = rz F → 0 ≤ i → i + n = A 2 → n < f → (∀ j, 0 ≤ j → j < i → F j = nv (sFc A j)) →
    ∃ M2 F2, f_X7_parcelByForecast_27 f M r (iZ i) = (bd (f_X7_positionOfRank M2 r) fun r15 => if vin r15 12 then (if ix (M2 5 0 (ix r15)) < 132 then (some (.inl (M2 6 (ix (M2 5 0 (ix r15))) 0), M2)) else none) else none) ∧ QC M M2 ∧ M2 18 0 = rz F2 ∧ ∀ j, 0 ≤ j → j < A 2 → F2 j = nv (sFc A j) := by
  have o6 := hO.2.2.2.2.2.1
  intro n
  induction n with
  | zero =>
    intro f M F i hC hR hF i0 hi hf hj
    obtain ⟨f, rfl⟩ : ∃ g, f = g + 1 := ⟨f - 1, by omega⟩
    refine ⟨M, F, ?_, QC.rfl' M, hF, fun j j0 j1 => hj j j0 (by omega)⟩
    have c3 := hC.2.2.1
    show (if (M 1 0 3) ≤ iZ i then _ else _) = _
    rw [c3, if_pos (by rw [z_le (by omega) (by omega) (by omega) (by omega)]; omega)]
  | succ n ih =>
    intro f M F i hC hR hF i0 hi hf hj
    obtain ⟨f, rfl⟩ : ∃ g, f = g + 1 := ⟨f - 1, by omega⟩
    obtain ⟨D, S, q1⟩ := g_forecastOf hO hm hR hC i0 (by omega : i < A 2)
    have hq : mW M D S = mR (mW M D S) 18 0 F := (mR_id (by rw [mW_ne _ _ _ (by omega)]; exact hF)).symm
    have hu : mu (mW M D S) 18 0 i.toNat (iZ (nv (sFc A i))) = mR (mW M D S) 18 0 (uI F i (nv (sFc A i))) := by
      rw [hq, mu_mR _ _ _ _ i0, mR_mR]
    obtain ⟨M2, F2, t1, t2, t3, t4⟩ := ih f (mR (mW M D S) 18 0 (uI F i (nv (sFc A i)))) (uI F i (nv (sFc A i))) (i + 1) (Cl_mR 0 _ (by omega) (Cl_mW D S hC)) (Rw_rows (by rw [mR_ne _ _ (by omega), mW_ne _ _ _ (by omega)]) hR) (mR_at _ _ _ _) (by omega) (by omega) (by omega) (fun j j0 j1 => by
      by_cases e : j = i
      · rw [e, uI_eq]
      · rw [uI_ne _ _ e]; exact hj j j0 (by omega))
    refine ⟨M2, F2, ?_, ((QC.mW M D S).tr (fun d l k hd => by rw [mR_ne _ _ (by omega)])).tr t2, t3, t4⟩
    rw [← t1]
    have c3 := hC.2.2.1
    have hr := hR.1 i i0 (by omega)
    show (if (M 1 0 3) ≤ iZ i then _ else _) = _
    rw [c3, if_neg (by rw [z_le (by omega) (by omega) (by omega) (by omega)]; omega), if_pos (of_eq_true (z_vin i0 (by omega) (by omega))), z_ix (by omega) (by omega), if_pos (by omega), q1, bd2_s, nm_s, hu, zc_1, z_add]
theorem g_pbf_51 {M : Mem} {A D : Int → Int} (hA : M 21 0 = rz A) (hD : M 28 0 = rz D) (k36 : Mem → Int32 → Int32 → Option (Int32 × Mem)) {k r : Int} (P0 : 0 ≤ A 2) (P1 : A 2 ≤ 12) (hb : ∀ i, 0 ≤ i → i < A 2 → 0 ≤ D i ∧ D i ≤ 1000000) (k0 : 0 ≤ k) (k1 : k < A 2) (hr : i32 r) : ∀ (n f : Nat) (i c : Int), 0 ≤ i → i + n = A 2 → n < f → 0 ≤ c → c ≤ i → f_X8_parcelByForecast_51 k36 f M (iZ r) (iZ k) (iZ c) (iZ i) = if c + sF (bfT D k) n i = r then some (iZ (A (108 + 7 * k)), M) else k36 M (iZ r) (iZ (k + 1)) := by
  have bk := hb k k0 k1
  unfold i32 at hr
  intro n
  induction n with
  | zero =>
    intro f i c i0 hi hf c0 c1
    obtain ⟨f, rfl⟩ : ∃ g, f = g + 1 := ⟨f - 1, by omega⟩
    clear hb
    unfold sF
    rw [Int.add_zero]
    by_cases e : c = r
    · rw [if_pos e]
      simp (disch := omega) only [f_X8_parcelByForecast_51, hA, rz_2, ↓reduceIte, ↓nm_s, ↓lk_s, ↓pc_s, z_add, z_sub, z_mul, z_neg, z_le, z_lt, z_eq, z_ix, z_vin, z_rem, zc_0, zc_1, zc_2, zc_3, zc_4, zc_5, zc_6, zc_7, zc_8, zc_9, zc_10, zc_12, zc_20, zc_60, zc_80, zc_108, zc_120, zc_185, zc_192, zc_1344, zc_9999, zc_FAR, zc_NEV, ite_T, ite_F, bd_s, bd2_s, rz_z, toNat_cast, mR_at, mR_ne, mu_mR, il_t, il_f, ilt_t, ilt_f, ieq_t, ieq_f, nlt_t]
    · rw [if_neg e]
      simp (disch := omega) only [f_X8_parcelByForecast_51, hA, rz_2, ↓reduceIte, ↓nm_s, ↓lk_s, ↓pc_s, z_add, z_sub, z_mul, z_neg, z_le, z_lt, z_eq, z_ix, z_vin, z_rem, zc_0, zc_1, zc_2, zc_3, zc_4, zc_5, zc_6, zc_7, zc_8, zc_9, zc_10, zc_12, zc_20, zc_60, zc_80, zc_108, zc_120, zc_185, zc_192, zc_1344, zc_9999, zc_FAR, zc_NEV, ite_T, ite_F, bd_s, bd2_s, rz_z, toNat_cast, mR_at, mR_ne, mu_mR, il_t, il_f, ilt_t, ilt_f, ieq_t, ieq_f, nlt_t]
  | succ n ih =>
    intro f i c i0 hi hf c0 c1
    obtain ⟨f, rfl⟩ : ∃ g, f = g + 1 := ⟨f - 1, by omega⟩
    have bi := hb i i0 (by omega)
    have h1 := ih f (i + 1) c (by omega) (by omega) (by omega) c0 (by omega)
    have h2 := ih f (i + 1) (c + 1) (by omega) (by omega) (by omega) (by omega) (by omega)
    clear hb ih
    unfold sF
    by_cases c3 : D i < D k
    · rw [show bfT D k i = 1 by unfold bfT; rw [if_pos c3], ← Int.add_assoc, ← h2]
      simp (disch := omega) only [f_X8_parcelByForecast_51, f_X8_parcelByForecast_101, f_X8_parcelByForecast_105, f_X8_parcelByForecast_106, hA, hD, rz_2, ↓reduceIte, ↓nm_s, ↓lk_s, ↓pc_s, z_add, z_sub, z_mul, z_neg, z_le, z_lt, z_eq, z_ix, z_vin, z_rem, zc_0, zc_1, zc_2, zc_3, zc_4, zc_5, zc_6, zc_7, zc_8, zc_9, zc_10, zc_12, zc_20, zc_60, zc_80, zc_108, zc_120, zc_185, zc_192, zc_1344, zc_9999, zc_FAR, zc_NEV, ite_T, ite_F, bd_s, bd2_s, rz_z, toNat_cast, mR_at, mR_ne, mu_mR, il_t, il_f, ilt_t, ilt_f, ieq_t, ieq_f, nlt_t]
    · by_cases c2 : D i = D k ∧ i < k
      · rw [show bfT D k i = 1 by unfold bfT; rw [if_neg c3, if_pos c2], ← Int.add_assoc, ← h2]
        simp (disch := omega) only [f_X8_parcelByForecast_51, f_X8_parcelByForecast_101, f_X8_parcelByForecast_105, f_X8_parcelByForecast_106, hA, hD, rz_2, ↓reduceIte, ↓nm_s, ↓lk_s, ↓pc_s, z_add, z_sub, z_mul, z_neg, z_le, z_lt, z_eq, z_ix, z_vin, z_rem, zc_0, zc_1, zc_2, zc_3, zc_4, zc_5, zc_6, zc_7, zc_8, zc_9, zc_10, zc_12, zc_20, zc_60, zc_80, zc_108, zc_120, zc_185, zc_192, zc_1344, zc_9999, zc_FAR, zc_NEV, ite_T, ite_F, bd_s, bd2_s, rz_z, toNat_cast, mR_at, mR_ne, mu_mR, il_t, il_f, ilt_t, ilt_f, ieq_t, ieq_f, nlt_t]
      · rw [show bfT D k i = 0 by unfold bfT; rw [if_neg c3, if_neg c2], Int.zero_add, ← h1]
        by_cases c4 : D i = D k
        · simp (disch := omega) only [f_X8_parcelByForecast_51, f_X8_parcelByForecast_101, f_X8_parcelByForecast_105, f_X8_parcelByForecast_106, hA, hD, rz_2, ↓reduceIte, ↓nm_s, ↓lk_s, ↓pc_s, z_add, z_sub, z_mul, z_neg, z_le, z_lt, z_eq, z_ix, z_vin, z_rem, zc_0, zc_1, zc_2, zc_3, zc_4, zc_5, zc_6, zc_7, zc_8, zc_9, zc_10, zc_12, zc_20, zc_60, zc_80, zc_108, zc_120, zc_185, zc_192, zc_1344, zc_9999, zc_FAR, zc_NEV, ite_T, ite_F, bd_s, bd2_s, rz_z, toNat_cast, mR_at, mR_ne, mu_mR, il_t, il_f, ilt_t, ilt_f, ieq_t, ieq_f, nlt_t]
          rw [Int.add_zero]
        · simp (disch := omega) only [f_X8_parcelByForecast_51, f_X8_parcelByForecast_101, f_X8_parcelByForecast_105, f_X8_parcelByForecast_106, hA, hD, rz_2, ↓reduceIte, ↓nm_s, ↓lk_s, ↓pc_s, z_add, z_sub, z_mul, z_neg, z_le, z_lt, z_eq, z_ix, z_vin, z_rem, zc_0, zc_1, zc_2, zc_3, zc_4, zc_5, zc_6, zc_7, zc_8, zc_9, zc_10, zc_12, zc_20, zc_60, zc_80, zc_108, zc_120, zc_185, zc_192, zc_1344, zc_9999, zc_FAR, zc_NEV, ite_T, ite_F, bd_s, bd2_s, rz_z, toNat_cast, mR_at, mR_ne, mu_mR, il_t, il_f, ilt_t, ilt_f, ieq_t, ieq_f, nlt_t]
          rw [Int.add_zero]
theorem g_pbf_36 {M : Mem} {A D : Int → Int} (hA : M 21 0 = rz A) (hD : M 28 0 = rz D) {r : Int} (P0 : 0 ≤ A 2) (P1 : A 2 ≤ 12) (hb : ∀ i, 0 ≤ i → i < A 2 → 0 ≤ D i ∧ D i ≤ 1000000) (hr : i32 r) : ∀ (n f : Nat) (k : Int), 0 ≤ k → k + n = A 2 → n < f → f_X8_parcelByForecast_36 f M (iZ r) (iZ k) = if fF (fun k => bef D (A 2) k = r) n k = -1 then some (iZ (-1), mT M 1) else some (iZ (A (108 + 7 * fF (fun k => bef D (A 2) k = r) n k)), M) := by
  intro n
  induction n with
  | zero =>
    intro f k k0 hk hf
    obtain ⟨f, rfl⟩ : ∃ g, f = g + 1 := ⟨f - 1, by omega⟩
    unfold fF
    rw [if_pos (by decide)]
    clear hb
    simp (disch := omega) only [f_X8_parcelByForecast_36, hA, rz_2, mT_s, ↓reduceIte, ↓nm_s, ↓lk_s, ↓pc_s, z_add, z_sub, z_mul, z_neg, z_le, z_lt, z_eq, z_ix, z_vin, z_rem, zc_0, zc_1, zc_2, zc_3, zc_4, zc_5, zc_6, zc_7, zc_8, zc_9, zc_10, zc_12, zc_20, zc_60, zc_80, zc_108, zc_120, zc_185, zc_192, zc_1344, zc_9999, zc_FAR, zc_NEV, ite_T, ite_F, bd_s, bd2_s, rz_z, toNat_cast, mR_at, mR_ne, mu_mR, il_t, il_f, ilt_t, ilt_f, ieq_t, ieq_f, nlt_t]
  | succ n ih =>
    intro f k k0 hk hf
    obtain ⟨f, rfl⟩ : ∃ g, f = g + 1 := ⟨f - 1, by omega⟩
    have h1 := g_pbf_51 hA hD (f_X8_parcelByForecast_36 f) P0 P1 hb k0 (by omega : k < A 2) hr (A 2).toNat FU 0 0 (by omega) (by omega) (by unfold FU; omega) (by omega) (by omega)
    have h5 := ih f (k + 1) (by omega) (by omega) (by omega)
    show (if (M 21 0 2) ≤ iZ k then _ else f_X8_parcelByForecast_51 (f_X8_parcelByForecast_36 f) FU M (iZ r) (iZ k) (iZ 0) (iZ 0)) = _
    rw [hA, rz_2, if_neg (by rw [z_le (by omega) (by omega) (by omega) (by omega)]; omega), h1, Int.zero_add]
    by_cases c : bef D (A 2) k = r
    · rw [fF_t (c := fun k => bef D (A 2) k = r) c, if_neg (by omega : ¬ k = -1)]
      exact if_pos c
    · rw [fF_f (c := fun k => bef D (A 2) k = r) c, ← h5]
      exact if_neg c
theorem g_pbf_7 {p h : Int} {A : Int → Int} (hO : Ok p h A) (hm : Rm p h) (r : Int32) : ∀ (n f : Nat) (M : Mem) (D : Int → Int) (i : Int), M 21 0 = rz A → M 28 0 = rz D → 0 ≤ i → i + n = A 2 → n < f → (∀ j, 0 ≤ j → j < i → D j = sFc A j) →
    ∃ M2 D2, f_X8_parcelByForecast_7 f M r (iZ i) = f_X8_parcelByForecast_36 FU M2 r (iZ 0) ∧ (∀ d l k, d ≠ 27 → d ≠ 28 → M2 d l k = M d l k) ∧ M2 28 0 = rz D2 ∧ ∀ j, 0 ≤ j → j < A 2 → D2 j = sFc A j := by
  have o6 := hO.2.2.2.2.2.1
  intro n
  induction n with
  | zero =>
    intro f M D i hA hD i0 hi hf hj
    obtain ⟨f, rfl⟩ : ∃ g, f = g + 1 := ⟨f - 1, by omega⟩
    refine ⟨M, D, ?_, fun _ _ _ _ _ => rfl, hD, fun j j0 j1 => hj j j0 (by omega)⟩
    show (if (M 21 0 2) ≤ iZ i then _ else _) = _
    rw [hA, rz_2, if_pos (by rw [z_le (by omega) (by omega) (by omega) (by omega)]; omega), zc_0]
  | succ n ih =>
    intro f M D i hA hD i0 hi hf hj
    obtain ⟨f, rfl⟩ : ∃ g, f = g + 1 := ⟨f - 1, by omega⟩
    obtain ⟨R, q1⟩ := g_X8_forecastOf hO hm hA i0 (by omega : i < A 2)
    have hq : mR M 27 0 R = mR (mR M 27 0 R) 28 0 D := (mR_id (by rw [mR_ne _ _ (by omega)]; exact hD)).symm
    have hu : mu (mR M 27 0 R) 28 0 i.toNat (iZ (sFc A i)) = mR (mR M 27 0 R) 28 0 (uI D i (sFc A i)) := by
      rw [hq, mu_mR _ _ _ _ i0, mR_mR]
    obtain ⟨M2, D2, t1, t2, t3, t4⟩ := ih f (mR (mR M 27 0 R) 28 0 (uI D i (sFc A i))) (uI D i (sFc A i)) (i + 1) (by rw [mR_ne _ _ (by omega), mR_ne _ _ (by omega)]; exact hA) (mR_at _ _ _ _) (by omega) (by omega) (by omega) (fun j j0 j1 => by
      by_cases e : j = i
      · rw [e, uI_eq]
      · rw [uI_ne _ _ e]; exact hj j j0 (by omega))
    refine ⟨M2, D2, ?_, fun d l k h1 h2 => by rw [t2 d l k h1 h2, mR_ne _ _ (by omega), mR_ne _ _ (by omega)], t3, t4⟩
    rw [← t1]
    show (if (M 21 0 2) ≤ iZ i then _ else _) = _
    rw [hA, rz_2, if_neg (by rw [z_le (by omega) (by omega) (by omega) (by omega)]; omega), q1, bd2_s, if_pos (of_eq_true (z_vin i0 (by omega) (by omega))), z_ix (by omega) (by omega), nm_s, hu, zc_1, z_add]
theorem q_parcelByForecast {n : Int} {M : Mem} (n0 : 0 ≤ n) (n1 : n ≤ 512) (hR : Rl n M) (x : Int32) : Gd n (f_L_parcelByForecast M x) (fun M1 => f_X8_parcelByForecast M1 x) := by
  obtain ⟨r, rfl, hr⟩ := z_mk x
  obtain ⟨A, p, h, hO, hm, hC, hW, hA⟩ := hR.view n0 n1
  have o5 := hO.2.2.2.2.1
  have o6 := hO.2.2.2.2.2.1
  have hfc : ∀ i, 0 ≤ i → i < A 2 → 0 ≤ sFc A i ∧ sFc A i ≤ 1000000 := fun i i0 i1 => sFc_in hO hm.lo i0 i1
  have href : ∀ M1 : Mem, M1 21 0 = rz A → ∃ M2, f_X8_parcelByForecast M1 (iZ r) = (if fF (fun k => bef (sFc A) (A 2) k = r) (A 2).toNat 0 = -1 then some (iZ (-1), mT M2 1) else some (iZ (A (108 + 7 * fF (fun k => bef (sFc A) (A 2) k = r) (A 2).toNat 0)), M2)) ∧ M2 20 0 9 = iZ 0 ∧ QR M1 M2 := fun M1 h1 => by
    obtain ⟨D0, -, h28, -⟩ := mR_self (mT M1 0) 28 0
    obtain ⟨M2, D2, t1, t2, t3, t4⟩ := g_pbf_7 hO hm.lo (iZ r) (A 2).toNat FU (mT M1 0) D0 0 (mT21 0 h1) h28 (by omega) (by omega) (by unfold FU; omega) (fun j j0 j1 => by omega)
    have hb : ∀ k, 0 ≤ k → k < A 2 → bef D2 (A 2) k = bef (sFc A) (A 2) k := fun k k0 k1 => by
      unfold bef
      refine sF_cg _ _ (fun i i0 i1 => ?_)
      unfold bfT
      rw [t4 i i0 (by omega), t4 k k0 k1]
    have he := g_pbf_36 (M := M2) (A := A) (D := D2) (by funext k; rw [t2 21 0 k (by omega) (by omega), mT21 0 h1]) t3 o5 o6 (fun i i0 i1 => by rw [t4 i i0 i1]; exact hfc i i0 i1) hr (A 2).toNat FU 0 (by omega) (by omega) (by unfold FU; omega)
    rw [fF_cg (d := fun k => bef (sFc A) (A 2) k = r) (A 2).toNat 0 (fun k k0 k1 => by rw [hb k k0 (by omega)])] at he
    refine ⟨M2, ?_, by rw [t2 20 0 9 (by omega) (by omega)]; exact mT_9 _ _, fun d i k hd => by rw [t2 d i k (by omega) (by omega)]; exact mu_miss _ _ (by omega)⟩
    unfold f_X8_parcelByForecast
    rw [nm_s, mu0_mT, zc_0, t1, he]
  by_cases c : 0 ≤ r ∧ r < A 2
  · obtain ⟨k, k0, k1, hk⟩ := bef_onto (sFc A) c.1 c.2
    have hF := fF_in (c := fun k => bef (sFc A) (A 2) k = r) (A 2).toNat 0 (by omega)
    have hF2 : 0 ≤ fF (fun k => bef (sFc A) (A 2) k = r) (A 2).toNat 0 ∧ fF (fun k => bef (sFc A) (A 2) k = r) (A 2).toNat 0 < A 2 := by
      obtain ⟨-, h2⟩ | ⟨h1, h2, -⟩ := hF
      · exact absurd hk (h2 k k0 (by omega))
      · exact ⟨h1, by omega⟩
    obtain ⟨F0, -, h18, -⟩ := mR_self M 18 0
    obtain ⟨M2, F2, t1, t2, t3, t4⟩ := g_pbf_27 hO hm.lo (iZ r) (A 2).toNat FU M F0 0 hC hW h18 (by omega) (by omega) (by unfold FU; omega) (fun j j0 j1 => by omega)
    have hb : ∀ k, 0 ≤ k → k < A 2 → bef F2 (A 2) k = bef (sFc A) (A 2) k := fun k k0 k1 => bef_cg k0 k1 (fun i i0 i1 => (hfc i i0 i1).2) t4
    have hC2 : Cl M2 0 A := Cl_rows (fun d i hd => funext fun k => t2 d i k (by omega)) hC
    have hp := g_posRank_2 (M := M2) (P := A 2) hC2.2.2.1 t3 o5 o6 (fun i i0 i1 => by rw [t4 i i0 i1]; exact nv_in (hfc i i0 i1).1 (hfc i i0 i1).2) hr (A 2).toNat FU 0 (by omega) (by omega) (by unfold FU; omega)
    rw [fF_cg (d := fun k => bef (sFc A) (A 2) k = r) (A 2).toNat 0 (fun k k0 k1 => by rw [hb k k0 (by omega)]), if_neg (by omega)] at hp
    have hp2 : f_X7_positionOfRank M2 (iZ r) = some (iZ (fF (fun k => bef (sFc A) (A 2) k = r) (A 2).toNat 0)) := hp
    generalize fF (fun k => bef (sFc A) (A 2) k = r) (A 2).toNat 0 = q at *
    have h5 : M2 5 0 = M 5 0 := funext fun k => t2 5 0 k (by omega)
    have hrw := hW.1 q hF2.1 (by omega)
    have cl := (cl_of hC2 hF2.1 hF2.2).1
    obtain ⟨M3, u1, u2, u3⟩ := href (mu M2 33 0 0 (iZ (A (108 + 7 * q)))) (mu33 _ (by funext k; rw [t2 21 0 k (by omega), hA]))
    rw [if_neg (by omega)] at u1
    refine gd_ok hR (M1 := M2) (r := iZ (A (108 + 7 * q))) ?_ t2 ⟨M3, u1, u2, u3⟩
    unfold f_L_parcelByForecast f_X7_parcelByForecast
    rw [if_neg (by rw [zc_0, z_lt (by omega) (by omega) (by omega) (by omega)]; omega), hC.2.2.1, if_pos (by rw [z_lt (by omega) (by omega) (by omega) (by omega)]; omega), zc_0, t1, bdq hp2, if_pos (of_eq_true (z_vin hF2.1 (by omega) (by omega))), z_ix (by omega) (by omega), if_pos (by rw [h5]; omega), cl, bxh_l, nm_s]
  · have hF := fF_in (c := fun k => bef (sFc A) (A 2) k = r) (A 2).toNat 0 (by omega)
    have hF2 : fF (fun k => bef (sFc A) (A 2) k = r) (A 2).toNat 0 = -1 := by
      obtain ⟨h1, -⟩ | ⟨h1, h2, h3, -⟩ := hF
      · exact h1
      · have h4 : bef (sFc A) (A 2) (fF (fun k => bef (sFc A) (A 2) k = r) (A 2).toNat 0) = r := h3
        have h5 := bef_in (sFc A) (P := A 2) h1 (by omega)
        omega
    obtain ⟨M3, u1, u2, u3⟩ := href M hA
    rw [if_pos hF2] at u1
    refine gd_no hR (M1 := M) (e := 1) (by omega) (by omega) ?_ (QC.rfl' M) ⟨_, _, u1, mT_9 _ _, u3.tr (QR.mT _ _)⟩
    unfold f_L_parcelByForecast f_X7_parcelByForecast f_X7_parcelByForecast_15
    by_cases c2 : r < 0
    · rw [if_pos (by rw [zc_0, z_lt (by omega) (by omega) (by omega) (by omega)]; omega), bxh_r]; rfl
    · rw [if_neg (by rw [zc_0, z_lt (by omega) (by omega) (by omega) (by omega)]; omega), hC.2.2.1, if_neg (by rw [z_lt (by omega) (by omega) (by omega) (by omega)]; omega), bxh_r]; rfl
