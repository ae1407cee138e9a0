/-! Only 0 to 191 of an array are looked at. -/
def Eq192 (A B : Int → Int) : Prop := ∀ j, 0 ≤ j → j < 192 → B j = A j
theorem Cl_cg {p h : Int} {A B : Int → Int} (hO : Ok p h A) (hE : Eq192 A B) {M : Mem} {s : Nat} (hC : Cl M s A) : Cl M s B := by
  obtain ⟨o1, o2, o3, o4, o5, o6, o7, o8, o9, o10, o11, ol, ob, op, oc⟩ := hO
  obtain ⟨c0, c1, c2, c3, c4, c5, c6, c7, cl, cp⟩ := hC
  have e0 := hE 0 (by omega) (by omega)
  have e1 := hE 1 (by omega) (by omega)
  have e2 := hE 2 (by omega) (by omega)
  refine ⟨by rw [e0]; exact c0, by rw [e1]; exact c1, by rw [e2]; exact c2, by rw [hE 3 (by omega) (by omega)]; exact c3, by rw [hE 4 (by omega) (by omega)]; exact c4, by rw [hE 5 (by omega) (by omega)]; exact c5, by rw [hE 6 (by omega) (by omega)]; exact c6, by rw [hE 7 (by omega) (by omega)]; exact c7, fun k k0 k1 => ?_, fun k k0 k1 => ?_⟩
  · rw [e1] at k1
    rw [hE (8 + 5 * k) (by omega) (by omega), hE (8 + 5 * k + 1) (by omega) (by omega), hE (8 + 5 * k + 2) (by omega) (by omega), hE (8 + 5 * k + 3) (by omega) (by omega), hE (8 + 5 * k + 4) (by omega) (by omega)]
    exact cl k k0 k1
  · rw [e2] at k1
    have hp := op k k0 k1
    unfold pcl at hp
    have hsat : sAt B k = sAt A k := by
      unfold sAt
      rw [hE (108 + 7 * k + 4) (by omega) (by omega), hE (108 + 7 * k + 5) (by omega) (by omega)]
      by_cases h4 : A (108 + 7 * k + 4) = -1
      · rw [if_pos h4, if_pos h4, hE _ (by omega) (by omega)]
      · rw [if_neg h4, if_neg h4]
    rw [hsat, hE (108 + 7 * k) (by omega) (by omega), hE (108 + 7 * k + 1) (by omega) (by omega), hE (108 + 7 * k + 2) (by omega) (by omega), hE (108 + 7 * k + 3) (by omega) (by omega), hE (108 + 7 * k + 4) (by omega) (by omega), hE (108 + 7 * k + 5) (by omega) (by omega), hE (108 + 7 * k + 6) (by omega) (by omega)]
    exact cp k k0 k1
theorem Ok_cg {p h : Int} {A B : Int → Int} (hO : Ok p h A) (hE : Eq192 A B) : Ok p h B := by
  obtain ⟨o1, o2, o3, o4, o5, o6, o7, o8, o9, o10, o11, ol, ob, op, oc⟩ := hO
  have e0 := hE 0 (by omega) (by omega)
  have e1 := hE 1 (by omega) (by omega)
  have e2 := hE 2 (by omega) (by omega)
  have e3 := hE 3 (by omega) (by omega)
  have e4 := hE 4 (by omega) (by omega)
  have e5 := hE 5 (by omega) (by omega)
  have e6 := hE 6 (by omega) (by omega)
  refine ⟨by omega, by omega, by omega, by omega, by omega, by omega, by omega, by omega, by omega, by omega, by omega, fun k k0 k1 => ?_, fun k k0 k1 => ?_, fun k k0 k1 => ?_, fun k k0 k1 => ?_⟩
  · have := ol k k0 (by omega)
    unfold lnk at *
    rw [e0, hE (8 + 5 * k) (by omega) (by omega), hE (8 + 5 * k + 1) (by omega) (by omega), hE (8 + 5 * k + 2) (by omega) (by omega), hE (8 + 5 * k + 3) (by omega) (by omega), hE (8 + 5 * k + 4) (by omega) (by omega)]
    exact this
  · rw [hE (8 + 5 * k + 4) (by omega) (by omega)]; exact ob k (by omega) k1
  · have := op k k0 (by omega)
    unfold pcl at *
    rw [e0, e1, e3, hE (108 + 7 * k) (by omega) (by omega), hE (108 + 7 * k + 1) (by omega) (by omega), hE (108 + 7 * k + 2) (by omega) (by omega), hE (108 + 7 * k + 3) (by omega) (by omega), hE (108 + 7 * k + 4) (by omega) (by omega), hE (108 + 7 * k + 5) (by omega) (by omega), hE (108 + 7 * k + 6) (by omega) (by omega)]
    exact this
  · rw [sLoad_cg (A := A) k e2 (fun j j0 j1 => ⟨hE _ (by omega) (by omega), hE _ (by omega) (by omega)⟩)]
    exact oc k k0 (by omega)
theorem g_undo_30 {B : Int → Int} {c : Int} (c0 : 0 ≤ c) (c1 : c < 8) : ∀ (n f : Nat) (M : Mem) (A : Int → Int) (k : Int), M 25 0 = rz B → M 20 0 6 = iZ c → 0 ≤ k → k + n = 192 → n < f → (∀ j, 0 ≤ j → j < k → A j = B (192 * c + j)) →
    ∃ A2, f_X8_undo_30 f (mR M 21 0 A) (iZ k) = some (iZ c, mR M 21 0 A2) ∧ ∀ j, 0 ≤ j → j < 192 → A2 j = B (192 * c + j) := by
  intro n
  induction n with
  | zero =>
    intro f M A k hB h6 k0 hk hf hA
    obtain ⟨f, rfl⟩ : ∃ g, f = g + 1 := ⟨f - 1, by omega⟩
    refine ⟨A, ?_, fun j j0 j1 => hA j j0 (by omega)⟩
    simp (disch := omega) only [f_X8_undo_30, h6, ↓reduceIte, ↓nm_s, ↓lk_s, ↓pc_s, z_add, z_sub, z_mul, z_neg, z_le, z_lt, z_eq, z_ix, z_vin, z_rem, zc_0, zc_1, zc_2, zc_3, zc_4, zc_5, zc_6, zc_7, zc_8, zc_9, zc_10, zc_12, zc_20, zc_60, zc_80, zc_108, zc_120, zc_185, zc_192, zc_1344, zc_9999, zc_FAR, zc_NEV, ite_T, ite_F, bd_s, bd2_s, rz_z, toNat_cast, mR_at, mR_ne, mu_mR, il_t, il_f, ilt_t, ilt_f, ieq_t, ieq_f, nlt_t]
  | succ n ih =>
    intro f M A k hB h6 k0 hk hf hA
    obtain ⟨f, rfl⟩ : ∃ g, f = g + 1 := ⟨f - 1, by omega⟩
    obtain ⟨A2, h1, h2⟩ := ih f M (uI A k (B (192 * c + k))) (k + 1) hB h6 (by omega) (by omega) (by omega) (fun j j0 j1 => by
      by_cases hj : j = k
      · rw [hj, uI_eq]
      · rw [uI_ne _ _ hj]; exact hA j j0 (by omega))
    refine ⟨A2, ?_, h2⟩
    rw [← h1]
    simp (disch := omega) only [f_X8_undo_30, hB, h6, ↓reduceIte, ↓nm_s, ↓lk_s, ↓pc_s, z_add, z_sub, z_mul, z_neg, z_le, z_lt, z_eq, z_ix, z_vin, z_rem, zc_0, zc_1, zc_2, zc_3, zc_4, zc_5, zc_6, zc_7, zc_8, zc_9, zc_10, zc_12, zc_20, zc_60, zc_80, zc_108, zc_120, zc_185, zc_192, zc_1344, zc_9999, zc_FAR, zc_NEV, ite_T, ite_F, bd_s, bd2_s, rz_z, toNat_cast, mR_at, mR_ne, mu_mR, il_t, il_f, ilt_t, ilt_f, ieq_t, ieq_f, nlt_t]
theorem g_save_7 {A : Int → Int} : ∀ (n f : Nat) (M : Mem) (C : Int → Int) (k : Int), M 21 0 = rz A → 0 ≤ k → k + n = 192 → n < f → (∀ j, 0 ≤ j → j < k → C j = A j) →
    ∃ C2, f_X8_save_7 f (mR M 24 0 C) (iZ k) = some (iZ (A 0), mu (mR M 24 0 C2) 20 0 4 (iZ 1)) ∧ ∀ j, 0 ≤ j → j < 192 → C2 j = A j := by
  intro n
  induction n with
  | zero =>
    intro f M C k hA k0 hk hf hC
    obtain ⟨f, rfl⟩ : ∃ g, f = g + 1 := ⟨f - 1, by omega⟩
    refine ⟨C, ?_, fun j j0 j1 => hC j j0 (by omega)⟩
    simp (disch := omega) only [f_X8_save_7, mu_miss, hA, rz_0, ↓reduceIte, ↓nm_s, ↓lk_s, ↓pc_s, z_add, z_sub, z_mul, z_neg, z_le, z_lt, z_eq, z_ix, z_vin, z_rem, zc_0, zc_1, zc_2, zc_3, zc_4, zc_5, zc_6, zc_7, zc_8, zc_9, zc_10, zc_12, zc_20, zc_60, zc_80, zc_108, zc_120, zc_185, zc_192, zc_1344, zc_9999, zc_FAR, zc_NEV, ite_T, ite_F, bd_s, bd2_s, rz_z, toNat_cast, mR_at, mR_ne, mu_mR, il_t, il_f, ilt_t, ilt_f, ieq_t, ieq_f, nlt_t]
  | succ n ih =>
    intro f M C k hA k0 hk hf hC
    obtain ⟨f, rfl⟩ : ∃ g, f = g + 1 := ⟨f - 1, by omega⟩
    obtain ⟨C2, h1, h2⟩ := ih f M (uI C k (A k)) (k + 1) hA (by omega) (by omega) (by omega) (fun j j0 j1 => by
      by_cases hj : j = k
      · rw [hj, uI_eq]
      · rw [uI_ne _ _ hj]; exact hC j j0 (by omega))
    refine ⟨C2, ?_, h2⟩
    rw [← h1]
    simp (disch := omega) only [f_X8_save_7, hA, ↓reduceIte, ↓nm_s, ↓lk_s, ↓pc_s, z_add, z_sub, z_mul, z_neg, z_le, z_lt, z_eq, z_ix, z_vin, z_rem, zc_0, zc_1, zc_2, zc_3, zc_4, zc_5, zc_6, zc_7, zc_8, zc_9, zc_10, zc_12, zc_20, zc_60, zc_80, zc_108, zc_120, zc_185, zc_192, zc_1344, zc_9999, zc_FAR, zc_NEV, ite_T, ite_F, bd_s, bd2_s, rz_z, toNat_cast, mR_at, mR_ne, mu_mR, il_t, il_f, ilt_t, ilt_f, ieq_t, ieq_f, nlt_t]
theorem g_restore_20 {S : Int → Int} : ∀ (n f : Nat) (M : Mem) (A : Int → Int) (k : Int), M 24 0 = rz S → 0 ≤ k → k + n = 192 → n < f → (∀ j, 0 ≤ j → j < k → A j = S j) →
    ∃ A2, f_X8_restore_20 f (mR M 21 0 A) (iZ k) = some (iZ (A2 0), mu (mR M 21 0 A2) 20 0 6 (iZ 0)) ∧ ∀ j, 0 ≤ j → j < 192 → A2 j = S j := by
  intro n
  induction n with
  | zero =>
    intro f M A k hS k0 hk hf hA
    obtain ⟨f, rfl⟩ : ∃ g, f = g + 1 := ⟨f - 1, by omega⟩
    refine ⟨A, ?_, fun j j0 j1 => hA j j0 (by omega)⟩
    simp (disch := omega) only [f_X8_restore_20, mu_miss, rz_0, ↓reduceIte, ↓nm_s, ↓lk_s, ↓pc_s, z_add, z_sub, z_mul, z_neg, z_le, z_lt, z_eq, z_ix, z_vin, z_rem, zc_0, zc_1, zc_2, zc_3, zc_4, zc_5, zc_6, zc_7, zc_8, zc_9, zc_10, zc_12, zc_20, zc_60, zc_80, zc_108, zc_120, zc_185, zc_192, zc_1344, zc_9999, zc_FAR, zc_NEV, ite_T, ite_F, bd_s, bd2_s, rz_z, toNat_cast, mR_at, mR_ne, mu_mR, il_t, il_f, ilt_t, ilt_f, ieq_t, ieq_f, nlt_t]
  | succ n ih =>
    intro f M A k hS k0 hk hf hA
    obtain ⟨f, rfl⟩ : ∃ g, f = g + 1 := ⟨f - 1, by omega⟩
    obtain ⟨A2, h1, h2⟩ := ih f M (uI A k (S k)) (k + 1) hS (by omega) (by omega) (by omega) (fun j j0 j1 => by
      by_cases hj : j = k
      · rw [hj, uI_eq]
      · rw [uI_ne _ _ hj]; exact hA j j0 (by omega))
    refine ⟨A2, ?_, h2⟩
    rw [← h1]
    simp (disch := omega) only [f_X8_restore_20, hS, ↓reduceIte, ↓nm_s, ↓lk_s, ↓pc_s, z_add, z_sub, z_mul, z_neg, z_le, z_lt, z_eq, z_ix, z_vin, z_rem, zc_0, zc_1, zc_2, zc_3, zc_4, zc_5, zc_6, zc_7, zc_8, zc_9, zc_10, zc_12, zc_20, zc_60, zc_80, zc_108, zc_120, zc_185, zc_192, zc_1344, zc_9999, zc_FAR, zc_NEV, ite_T, ite_F, bd_s, bd2_s, rz_z, toNat_cast, mR_at, mR_ne, mu_mR, il_t, il_f, ilt_t, ilt_f, ieq_t, ieq_f, nlt_t]
