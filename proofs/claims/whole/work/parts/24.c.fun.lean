theorem sNext_in {p h : Int} {A : Int → Int} (hO : Ok p h A) (k : Int) : sNext A k = -1 ∨ (0 ≤ sNext A k ∧ sNext A k < A 1 ∧ cNx A k (sNext A k)) := by
  have o3 := hO.2.2.1
  by_cases hF : sFc A k = 1000000
  · left; unfold sNext; rw [if_pos hF]
  · have hx : sNext A k = fF (cNx A k) (A 1).toNat 0 := by unfold sNext; rw [if_neg hF]
    rw [hx]
    rcases fF_in (c := cNx A k) (A 1).toNat 0 (by omega) with ⟨h1, h2⟩ | ⟨h1, h2, h3, h4⟩
    · exact .inl h1
    · exact .inr ⟨h1, by omega, h3⟩
def cDs (A : Int → Int) (k : Int) : Prop := A (108 + 7 * k + 4) ≠ -1 ∧ sNext A k ≠ -1 ∧ sMay A k (sNext A k)
noncomputable def dL : Nat → (Int → Int) → Int → Int → (Int → Int) × Int
  | 0, A, _, c => (A, c)
  | n + 1, A, k, c => @ite _ (cDs A k) (Classical.propDecidable _) (dL n (tSe A k (sNext A k)) (k + 1) (c + 1)) (dL n A (k + 1) c)
theorem dL_t {A : Int → Int} {k c : Int} {n : Nat} (h : cDs A k) : dL (n + 1) A k c = dL n (tSe A k (sNext A k)) (k + 1) (c + 1) := by
  show @ite _ (cDs A k) (Classical.propDecidable _) _ _ = _
  exact @if_pos _ (Classical.propDecidable _) h _ _ _
theorem dL_f {A : Int → Int} {k c : Int} {n : Nat} (h : ¬ cDs A k) : dL (n + 1) A k c = dL n A (k + 1) c := by
  show @ite _ (cDs A k) (Classical.propDecidable _) _ _ = _
  exact @if_neg _ (Classical.propDecidable _) h _ _ _
def hL : Nat → (Int → Int) → Int → Int → (Int → Int) × Int
  | 0, A, _, c => (A, c)
  | n + 1, A, k, c => if A (108 + 7 * k + 4) = -1 ∧ A (108 + 7 * k + 6) = A 4 then (if A (8 + 5 * A (108 + 7 * k + 5) + 1) = A (108 + 7 * k + 1) then hL n (tRm A k 5) k (c + 1) else hL n (tAr A k) (k + 1) c) else hL n A (k + 1) c
def sHr (A : Int → Int) : (Int → Int) × Int := hL (A 2).toNat (tHo A) 0 0
def pL : Nat → (Int → Int) → Int → (Int → Int) × Int
  | 0, A, c => (A, c)
  | n + 1, A, c => pL n (sHr A).1 (c + (sHr A).2)
noncomputable def sDi (A : Int → Int) : (Int → Int) × Int := dL (A 2).toNat A 0 0
theorem tSe_2 (A : Int → Int) {k l : Int} (k0 : 0 ≤ k) : tSe A k l 2 = A 2 := by unfold tSe; simp (disch := omega) only [uI_ne]
theorem tAr_2 (A : Int → Int) {k : Int} (k0 : 0 ≤ k) : tAr A k 2 = A 2 := by unfold tAr; simp (disch := omega) only [uI_ne]
theorem tRm_2 (A : Int → Int) (k : Int) {e : Int} (he : e = 5 ∨ e = 6) : tRm A k e 2 = A 2 - 1 := by unfold tRm; rw [uI_ne _ _ (by omega), tLv_2]
theorem tHo_2 (A : Int → Int) : tHo A 2 = A 2 := uI_ne _ _ (by omega)
theorem Ok_dL {p h : Int} : ∀ (n : Nat) (A : Int → Int) (k c : Int), Ok p h A → 0 ≤ k → k + n = A 2 → Ok p h (dL n A k c).1 := by
  intro n
  induction n with
  | zero => intro A k c hO _ _; exact hO
  | succ n ih =>
    intro A k c hO k0 hk
    by_cases h : cDs A k
    · rw [dL_t h]
      have hn := sNext_in hO k
      have h2 := h.2.1
      exact ih _ _ _ (hO.tSe k0 (by omega) (by omega) (by omega) h.2.2) (by omega) (by rw [tSe_2 A k0]; omega)
    · rw [dL_f h]
      exact ih _ _ _ hO (by omega) (by omega)
theorem Ok_hL {p h : Int} : ∀ (n : Nat) (A : Int → Int) (k c : Int), Ok p h A → 0 ≤ k → k + n = A 2 → Ok p h (hL n A k c).1 := by
  intro n
  induction n with
  | zero => intro A k c hO _ _; exact hO
  | succ n ih =>
    intro A k c hO k0 hk
    unfold hL
    split
    · next h1 =>
      split
      · exact ih _ _ _ (hO.tRm (.inl rfl) k0 (by omega)) k0 (by rw [tRm_2 A k (.inl rfl)]; omega)
      · next h2 => exact ih _ _ _ (hO.tAr k0 (by omega) h1.1 h2) (by omega) (by rw [tAr_2 A k0]; omega)
    · exact ih _ _ _ hO (by omega) (by omega)
theorem Ok_sHr {p h : Int} {A : Int → Int} (hO : Ok p h A) : Ok p (h + 1) (sHr A).1 := by
  have o5 := hO.2.2.2.2.1
  exact Ok_hL _ _ _ _ hO.tHo (by omega) (by rw [tHo_2]; omega)
theorem Ok_sDi {p h : Int} {A : Int → Int} (hO : Ok p h A) : Ok p h (sDi A).1 := by
  have o5 := hO.2.2.2.2.1
  exact Ok_dL _ _ _ _ hO (by omega) (by omega)
theorem Ok_pL {p : Int} : ∀ (n : Nat) (h : Int) (A : Int → Int) (c : Int), Ok p h A → Ok p (h + n) (pL n A c).1 := by
  intro n
  induction n with
  | zero => intro h A c hO; exact hO.mono (Int.le_refl _) (by omega)
  | succ n ih => intro h A c hO; exact (ih (h + 1) _ _ (Ok_sHr hO)).mono (Int.le_refl _) (by omega)
theorem g_dispatchIt_4 {p h : Int} (hm : Rm p h) : ∀ (n f : Nat) (M : Mem) (A : Int → Int) (k c : Int), Ok p h A → 0 ≤ k → k + n = A 2 → n < f →
    ∃ D, f_X8_dispatchIt_4 f (mR M 21 0 A) (iZ c) (iZ k) = some (iZ (dL n A k c).2, mR (mR M 27 0 D) 21 0 (dL n A k c).1) := by
  intro n
  induction n with
  | zero =>
    intro f M A k c hO k0 hk hf
    obtain ⟨f, rfl⟩ : ∃ g, f = g + 1 := ⟨f - 1, by omega⟩
    obtain ⟨D, -, -, hM⟩ := mR_self M 27 0
    have o6 := hO.2.2.2.2.2.1
    refine ⟨D, ?_⟩
    rw [← hM]
    simp (disch := omega) only [f_X8_dispatchIt_4, rz_2, ↓reduceIte, ↓nm_s, ↓lk_s, ↓pc_s, z_add, z_sub, z_mul, z_neg, z_le, z_lt, z_eq, z_ix, z_vin, z_rem, zc_0, zc_1, zc_2, zc_3, zc_4, zc_5, zc_6, zc_7, zc_8, zc_9, zc_10, zc_12, zc_20, zc_60, zc_80, zc_108, zc_120, zc_185, zc_192, zc_1344, zc_9999, zc_FAR, zc_NEV, ite_T, ite_F, bd_s, bd2_s, rz_z, toNat_cast, mR_at, mR_ne, mu_mR, il_t, il_f, ilt_t, ilt_f, ieq_t, ieq_f, nlt_t]
    rfl
  | succ n ih =>
    intro f M A k c hO k0 hk hf
    obtain ⟨f, rfl⟩ : ∃ g, f = g + 1 := ⟨f - 1, by omega⟩
    have o4 := hO.2.2.2.1
    have o6 := hO.2.2.2.2.2.1
    have hp := hO.2.2.2.2.2.2.2.2.2.2.2.2.2.1 k k0 (by omega)
    unfold pcl at hp
    have hpl : -1 ≤ A (108 + 7 * k + 4) ∧ A (108 + 7 * k + 4) ≤ 20 := by
      have := hO.2.1
      omega
    clear hp
    by_cases h1 : A (108 + 7 * k + 4) = -1
    · obtain ⟨D, h3⟩ := ih f M A (k + 1) c hO (by omega) (by omega) (by omega)
      refine ⟨D, ?_⟩
      rw [dL_f (fun hc => hc.1 h1), ← h3]
      simp (disch := omega) only [f_X8_dispatchIt_4, f_X8_dispatchIt_59, rz_2, ↓reduceIte, ↓nm_s, ↓lk_s, ↓pc_s, z_add, z_sub, z_mul, z_neg, z_le, z_lt, z_eq, z_ix, z_vin, z_rem, zc_0, zc_1, zc_2, zc_3, zc_4, zc_5, zc_6, zc_7, zc_8, zc_9, zc_10, zc_12, zc_20, zc_60, zc_80, zc_108, zc_120, zc_185, zc_192, zc_1344, zc_9999, zc_FAR, zc_NEV, ite_T, ite_F, bd_s, bd2_s, rz_z, toNat_cast, mR_at, mR_ne, mu_mR, il_t, il_f, ilt_t, ilt_f, ieq_t, ieq_f, nlt_t]
    · obtain ⟨D, hnx⟩ := g_X8_next hO hm (mR_at M 21 0 A) k0 (by omega : k < A 2) h1
      rw [mR_sw _ _ _ (by omega)] at hnx
      have hni := sNext_in hO k
      by_cases h2 : sNext A k = -1
      · obtain ⟨D2, h3⟩ := ih f (mR M 27 0 D) A (k + 1) c hO (by omega) (by omega) (by omega)
        rw [mR_mR] at h3
        refine ⟨D2, ?_⟩
        rw [dL_f (fun hc => hc.2.1 h2), ← h3]
        rw [h2] at hnx
        simp (disch := omega) only [f_X8_dispatchIt_4, f_X8_dispatchIt_59, rz_2, hnx, ↓reduceIte, ↓nm_s, ↓lk_s, ↓pc_s, z_add, z_sub, z_mul, z_neg, z_le, z_lt, z_eq, z_ix, z_vin, z_rem, zc_0, zc_1, zc_2, zc_3, zc_4, zc_5, zc_6, zc_7, zc_8, zc_9, zc_10, zc_12, zc_20, zc_60, zc_80, zc_108, zc_120, zc_185, zc_192, zc_1344, zc_9999, zc_FAR, zc_NEV, ite_T, ite_F, bd_s, bd2_s, rz_z, toNat_cast, mR_at, mR_ne, mu_mR, il_t, il_f, ilt_t, ilt_f, ieq_t, ieq_f, nlt_t]
      · have hms := g_X8_maySend hO hm (mR_at (mR M 27 0 D) 21 0 A) k0 (by omega : k < A 2) (l := sNext A k) (by omega) (by omega)
        by_cases h4 : sMay A k (sNext A k)
        · rw [bC_t h4] at hms
          have hsd := g_sends hO hm (mR M 27 0 D) k0 (by omega : k < A 2) (l := sNext A k) (by omega) (by omega)
          obtain ⟨D2, h3⟩ := ih f (mR M 27 0 D) (tSe A k (sNext A k)) (k + 1) (c + 1) (hO.tSe k0 (by omega) (by omega) (by omega) h4) (by omega) (by rw [tSe_2 A k0]; omega) (by omega)
          rw [mR_mR] at h3
          refine ⟨D2, ?_⟩
          rw [dL_t ⟨h1, h2, h4⟩, ← h3]
          simp (disch := omega) only [f_X8_dispatchIt_4, f_X8_dispatchIt_59, rz_2, hnx, hms, hsd, ↓reduceIte, ↓nm_s, ↓lk_s, ↓pc_s, z_add, z_sub, z_mul, z_neg, z_le, z_lt, z_eq, z_ix, z_vin, z_rem, zc_0, zc_1, zc_2, zc_3, zc_4, zc_5, zc_6, zc_7, zc_8, zc_9, zc_10, zc_12, zc_20, zc_60, zc_80, zc_108, zc_120, zc_185, zc_192, zc_1344, zc_9999, zc_FAR, zc_NEV, ite_T, ite_F, bd_s, bd2_s, rz_z, toNat_cast, mR_at, mR_ne, mu_mR, il_t, il_f, ilt_t, ilt_f, ieq_t, ieq_f, nlt_t]
        · rw [bC_f h4] at hms
          obtain ⟨D2, h3⟩ := ih f (mR M 27 0 D) A (k + 1) c hO (by omega) (by omega) (by omega)
          rw [mR_mR] at h3
          refine ⟨D2, ?_⟩
          rw [dL_f (fun hc => h4 hc.2.2), ← h3]
          simp (disch := omega) only [f_X8_dispatchIt_4, f_X8_dispatchIt_59, rz_2, hnx, hms, ↓reduceIte, ↓nm_s, ↓lk_s, ↓pc_s, z_add, z_sub, z_mul, z_neg, z_le, z_lt, z_eq, z_ix, z_vin, z_rem, zc_0, zc_1, zc_2, zc_3, zc_4, zc_5, zc_6, zc_7, zc_8, zc_9, zc_10, zc_12, zc_20, zc_60, zc_80, zc_108, zc_120, zc_185, zc_192, zc_1344, zc_9999, zc_FAR, zc_NEV, ite_T, ite_F, bd_s, bd2_s, rz_z, toNat_cast, mR_at, mR_ne, mu_mR, il_t, il_f, ilt_t, ilt_f, ieq_t, ieq_f, nlt_t]
theorem g_dispatchIt {p h : Int} {A : Int → Int} (hO : Ok p h A) (hm : Rm p h) (M : Mem) : ∃ D, f_X8_dispatchIt (mR M 21 0 A) = some (iZ (sDi A).2, mR (mR M 27 0 D) 21 0 (sDi A).1) := by
  have o5 := hO.2.2.2.2.1
  have o6 := hO.2.2.2.2.2.1
  obtain ⟨D, h1⟩ := g_dispatchIt_4 hm (A 2).toNat FU M A 0 0 hO (by omega) (by omega) (by unfold FU; omega)
  refine ⟨D, ?_⟩
  unfold f_X8_dispatchIt
  simp only [zc_0]
  exact h1
theorem g_passesHour_14 {p h : Int} (hm : Rm p h) (M : Mem) : ∀ (n f : Nat) (A : Int → Int) (k c : Int), Ok p h A → 0 ≤ k → k + n = A 2 → n < f →
    f_X8_passesHour_14 f (mR M 21 0 A) (iZ c) (iZ k) = some (iZ (hL n A k c).2, mR M 21 0 (hL n A k c).1) := by
  intro n
  induction n with
  | zero =>
    intro f A k c hO k0 hk hf
    obtain ⟨f, rfl⟩ : ∃ g, f = g + 1 := ⟨f - 1, by omega⟩
    have o6 := hO.2.2.2.2.2.1
    simp (disch := omega) only [f_X8_passesHour_14, rz_2, ↓reduceIte, ↓nm_s, ↓lk_s, ↓pc_s, z_add, z_sub, z_mul, z_neg, z_le, z_lt, z_eq, z_ix, z_vin, z_rem, zc_0, zc_1, zc_2, zc_3, zc_4, zc_5, zc_6, zc_7, zc_8, zc_9, zc_10, zc_12, zc_20, zc_60, zc_80, zc_108, zc_120, zc_185, zc_192, zc_1344, zc_9999, zc_FAR, zc_NEV, ite_T, ite_F, bd_s, bd2_s, rz_z, toNat_cast, mR_at, mR_ne, mu_mR, il_t, il_f, ilt_t, ilt_f, ieq_t, ieq_f, nlt_t]
    rfl
  | succ n ih =>
    intro f A k c hO k0 hk hf
    obtain ⟨f, rfl⟩ : ∃ g, f = g + 1 := ⟨f - 1, by omega⟩
    have ho := hO
    obtain ⟨o1, o2, o3, o4, o5, o6, o7, o8, o9, o10, o11, ol, ob, op, oc⟩ := ho
    have hp := op k k0 (by omega)
    unfold pcl at hp
    unfold Rm at hm
    have e1 : -1 ≤ A (108 + 7 * k + 4) ∧ A (108 + 7 * k + 4) ≤ 8 := by omega
    have e3 : 0 ≤ A (108 + 7 * k + 1) ∧ A (108 + 7 * k + 1) ≤ 8 := by omega
    have hlv := g_leaves M A k0 (by omega : k < 12)
    unfold hL
    by_cases h1 : A (108 + 7 * k + 4) = -1
    · have e2 : 0 ≤ A (108 + 7 * k + 5) ∧ A (108 + 7 * k + 5) < A 1 ∧ 0 ≤ A (108 + 7 * k + 6) ∧ A (108 + 7 * k + 6) ≤ 800000 := by omega
      have hlk := ol (A (108 + 7 * k + 5)) (by omega) (by omega)
      unfold lnk at hlk
      have e4 : 0 ≤ A (8 + 5 * A (108 + 7 * k + 5) + 1) ∧ A (8 + 5 * A (108 + 7 * k + 5) + 1) ≤ 8 := by omega
      by_cases h2 : A (108 + 7 * k + 6) = A 4
      · rw [if_pos ⟨h1, h2⟩]
        by_cases h3 : A (8 + 5 * A (108 + 7 * k + 5) + 1) = A (108 + 7 * k + 1)
        · rw [if_pos h3, ← ih f (tRm A k 5) k (c + 1) (hO.tRm (.inl rfl) k0 (by omega)) k0 (by rw [tRm_2 A k (.inl rfl)]; omega) (by omega)]
          have h5 : tLv A k 5 = A 5 := tLv_lo (by omega) (by omega) (by omega)
          clear ol ob op oc hp hlk
          simp (disch := omega) only [f_X8_passesHour_14, f_X8_passesHour_168, f_X8_passesHour_134, f_X8_passesHour_93, f_X8_passesHour_64, f_X8_passesHour_63, rz_2, rz_4, rz_5, mu21_5, h5, hlv, ↓reduceIte, ↓nm_s, ↓lk_s, ↓pc_s, z_add, z_sub, z_mul, z_neg, z_le, z_lt, z_eq, z_ix, z_vin, z_rem, zc_0, zc_1, zc_2, zc_3, zc_4, zc_5, zc_6, zc_7, zc_8, zc_9, zc_10, zc_12, zc_20, zc_60, zc_80, zc_108, zc_120, zc_185, zc_192, zc_1344, zc_9999, zc_FAR, zc_NEV, ite_T, ite_F, bd_s, bd2_s, rz_z, toNat_cast, mR_at, mR_ne, mu_mR, il_t, il_f, ilt_t, ilt_f, ieq_t, ieq_f, nlt_t]
          rfl
        · rw [if_neg h3, ← ih f (tAr A k) (k + 1) c (hO.tAr k0 (by omega) h1 h3) (by omega) (by rw [tAr_2 A k0]; omega) (by omega)]
          clear ol ob op oc hp hlk
          simp (disch := omega) only [f_X8_passesHour_14, f_X8_passesHour_168, f_X8_passesHour_134, f_X8_passesHour_93, f_X8_passesHour_64, f_X8_passesHour_63, rz_2, rz_4, ↓reduceIte, ↓nm_s, ↓lk_s, ↓pc_s, z_add, z_sub, z_mul, z_neg, z_le, z_lt, z_eq, z_ix, z_vin, z_rem, zc_0, zc_1, zc_2, zc_3, zc_4, zc_5, zc_6, zc_7, zc_8, zc_9, zc_10, zc_12, zc_20, zc_60, zc_80, zc_108, zc_120, zc_185, zc_192, zc_1344, zc_9999, zc_FAR, zc_NEV, ite_T, ite_F, bd_s, bd2_s, rz_z, toNat_cast, mR_at, mR_ne, mu_mR, il_t, il_f, ilt_t, ilt_f, ieq_t, ieq_f, nlt_t]
          rfl
      · rw [if_neg (fun hc => h2 hc.2), ← ih f A (k + 1) c hO (by omega) (by omega) (by omega)]
        clear ol ob op oc hp hlk
        simp (disch := omega) only [f_X8_passesHour_14, f_X8_passesHour_168, f_X8_passesHour_134, f_X8_passesHour_93, f_X8_passesHour_64, f_X8_passesHour_63, rz_2, rz_4, ↓reduceIte, ↓nm_s, ↓lk_s, ↓pc_s, z_add, z_sub, z_mul, z_neg, z_le, z_lt, z_eq, z_ix, z_vin, z_rem, zc_0, zc_1, zc_2, zc_3, zc_4, zc_5, zc_6, zc_7, zc_8, zc_9, zc_10, zc_12, zc_20, zc_60, zc_80, zc_108, zc_120, zc_185, zc_192, zc_1344, zc_9999, zc_FAR, zc_NEV, ite_T, ite_F, bd_s, bd2_s, rz_z, toNat_cast, mR_at, mR_ne, mu_mR, il_t, il_f, ilt_t, ilt_f, ieq_t, ieq_f, nlt_t]
    · rw [if_neg (fun hc => h1 hc.1), ← ih f A (k + 1) c hO (by omega) (by omega) (by omega)]
      clear ol ob op oc hp
      simp (disch := omega) only [f_X8_passesHour_14, f_X8_passesHour_168, f_X8_passesHour_134, f_X8_passesHour_93, f_X8_passesHour_64, f_X8_passesHour_63, rz_2, rz_4, ↓reduceIte, ↓nm_s, ↓lk_s, ↓pc_s, z_add, z_sub, z_mul, z_neg, z_le, z_lt, z_eq, z_ix, z_vin, z_rem, zc_0, zc_1, zc_2, zc_3, zc_4, zc_5, zc_6, zc_7, zc_8, zc_9, zc_10, zc_12, zc_20, zc_60, zc_80, zc_108, zc_120, zc_185, zc_192, zc_1344, zc_9999, zc_FAR, zc_NEV, ite_T, ite_F, bd_s, bd2_s, rz_z, toNat_cast, mR_at, mR_ne, mu_mR, il_t, il_f, ilt_t, ilt_f, ieq_t, ieq_f, nlt_t]
theorem g_passesHour {p h : Int} {A : Int → Int} (hO : Ok p h A) (hm : Rm p (h + 1)) (M : Mem) : f_X8_passesHour (mR M 21 0 A) = some (iZ (sHr A).2, mR M 21 0 (sHr A).1) := by
  have o5 := hO.2.2.2.2.1
  have o6 := hO.2.2.2.2.2.1
  have h1 := g_passesHour_14 hm M (A 2).toNat FU (tHo A) 0 0 hO.tHo (by omega) (by rw [tHo_2]; omega) (by unfold FU; omega)
  unfold f_X8_passesHour
  rw [nm_s, mR_at, rz_4]
  simp only [zc_0, zc_1, z_add, mu21_4]
  exact h1
theorem g_passIt_22 {p : Int} (M : Mem) {hs : Int} (hi : i32 hs) : ∀ (n f : Nat) (h : Int) (A : Int → Int) (k c : Int), Ok p h A → Rm p (h + n) → 0 ≤ k → k + n = hs → n < f →
    f_X8_passIt_22 f (mR M 21 0 A) (iZ hs) (iZ c) (iZ k) = some (iZ (pL n A c).2, mR M 21 0 (pL n A c).1) := by
  unfold i32 at hi
  intro n
  induction n with
  | zero =>
    intro f h A k c hO hm k0 hk hf
    obtain ⟨f, rfl⟩ : ∃ g, f = g + 1 := ⟨f - 1, by omega⟩
    simp (disch := omega) only [f_X8_passIt_22, ↓reduceIte, ↓nm_s, ↓lk_s, ↓pc_s, z_add, z_sub, z_mul, z_neg, z_le, z_lt, z_eq, z_ix, z_vin, z_rem, zc_0, zc_1, zc_2, zc_3, zc_4, zc_5, zc_6, zc_7, zc_8, zc_9, zc_10, zc_12, zc_20, zc_60, zc_80, zc_108, zc_120, zc_185, zc_192, zc_1344, zc_9999, zc_FAR, zc_NEV, ite_T, ite_F, bd_s, bd2_s, rz_z, toNat_cast, mR_at, mR_ne, mu_mR, il_t, il_f, ilt_t, ilt_f, ieq_t, ieq_f, nlt_t]
    rfl
  | succ n ih =>
    intro f h A k c hO hm k0 hk hf
    obtain ⟨f, rfl⟩ : ∃ g, f = g + 1 := ⟨f - 1, by omega⟩
    have hm1 : Rm p (h + 1) := by unfold Rm at *; omega
    have hph := g_passesHour hO hm1 M
    have h3 := ih f (h + 1) (sHr A).1 (k + 1) (c + (sHr A).2) (Ok_sHr hO) (by unfold Rm at *; omega) (by omega) (by omega) (by omega)
    show _ = some (iZ (pL n (sHr A).1 (c + (sHr A).2)).2, mR M 21 0 (pL n (sHr A).1 (c + (sHr A).2)).1)
    rw [← h3]
    simp (disch := omega) only [f_X8_passIt_22, hph, ↓reduceIte, ↓nm_s, ↓lk_s, ↓pc_s, z_add, z_sub, z_mul, z_neg, z_le, z_lt, z_eq, z_ix, z_vin, z_rem, zc_0, zc_1, zc_2, zc_3, zc_4, zc_5, zc_6, zc_7, zc_8, zc_9, zc_10, zc_12, zc_20, zc_60, zc_80, zc_108, zc_120, zc_185, zc_192, zc_1344, zc_9999, zc_FAR, zc_NEV, ite_T, ite_F, bd_s, bd2_s, rz_z, toNat_cast, mR_at, mR_ne, mu_mR, il_t, il_f, ilt_t, ilt_f, ieq_t, ieq_f, nlt_t]
theorem g_passIt {p h : Int} {A : Int → Int} (hO : Ok p h A) (hm : Rm p (h + 120)) (M : Mem) {q : Int} (hq : i32 q) : f_X8_passIt (mR M 21 0 A) (iZ q) =
    if ¬ (1 ≤ q ∧ q ≤ 120) then some (iZ (-1), mT (mR M 21 0 A) 1) else some (iZ (pL q.toNat A 0).2, mR M 21 0 (pL q.toNat A 0).1) := by
  have h3 := g_X8_in (mR M 21 0 A) hq (by omega : i32 1) (by omega : i32 120)
  unfold bI at h3
  rw [← c64_1, ← c64_120] at h3
  by_cases c4 : 1 ≤ q ∧ q ≤ 120
  · rw [if_pos c4] at h3
    rw [if_neg (by omega)]
    have h5 := g_passIt_22 M hq q.toNat FU h A 0 0 hO (by unfold Rm at *; omega) (by omega) (by omega) (by unfold FU; omega)
    unfold f_X8_passIt
    rw [bdq h3]
    simp (disch := omega) only [zc_0, z_eq, ieq_f, ↓reduceIte]
    exact h5
  · rw [if_neg c4] at h3
    rw [if_pos c4]
    simp (disch := omega) only [f_X8_passIt, ↓bdq h3, mT_s, ↓reduceIte, ↓nm_s, ↓lk_s, ↓pc_s, z_add, z_sub, z_mul, z_neg, z_le, z_lt, z_eq, z_ix, z_vin, z_rem, zc_0, zc_1, zc_2, zc_3, zc_4, zc_5, zc_6, zc_7, zc_8, zc_9, zc_10, zc_12, zc_20, zc_60, zc_80, zc_108, zc_120, zc_185, zc_192, zc_1344, zc_9999, zc_FAR, zc_NEV, ite_T, ite_F, bd_s, bd2_s, rz_z, toNat_cast, mR_at, mR_ne, mu_mR, il_t, il_f, ilt_t, ilt_f, ieq_t, ieq_f, nlt_t]
