def sMay (A : Int → Int) (k l : Int) : Prop := A (108 + 7 * k + 4) ≠ -1 ∧ A (108 + 7 * k + 4) = A (8 + 5 * l) ∧ 0 < A (108 + 7 * k + 3) ∧ sOpen A l (A 4) = 1 ∧ sLoad A l + A (108 + 7 * k + 2) ≤ 10
noncomputable def bC (c : Prop) : Int := @ite _ c (Classical.propDecidable c) 1 0
theorem bC_t {c : Prop} (h : c) : bC c = 1 := @if_pos _ (Classical.propDecidable c) h _ _ _
theorem bC_f {c : Prop} (h : ¬ c) : bC c = 0 := @if_neg _ (Classical.propDecidable c) h _ _ _
theorem sOpen_c (A : Int → Int) (l t : Int) : sOpen A l t = 0 ∨ sOpen A l t = 1 := by unfold sOpen; split <;> (try split) <;> omega
theorem g_X8_maySend {p h : Int} {M : Mem} {A : Int → Int} (hO : Ok p h A) (hm : Rm p h) (hA : M 21 0 = rz A) {k l : Int} (k0 : 0 ≤ k) (k1 : k < A 2) (l0 : 0 ≤ l) (l1 : l < A 1) : f_X8_maySend M (iZ k) (iZ l) = some (iZ (bC (sMay A k l))) := by
  have hld := g_X8_load hO hm hA (l := l) l0 (by have := hO.2.2.2.1; omega)
  have hn := sLoad_nn hO l
  have hop := g_X8_isOpen hO hA l0 l1 (t := A 4) (by have := hO.2.2.2.2.2.2.2.2.1; omega) (by have := hO.2.2.2.2.2.2.2.2.2.1; have := hm.2; omega)
  obtain ⟨o1, o2, o3, o4, o5, o6, o7, o8, o9, o10, o11, ol, ob, op, oc⟩ := hO
  have hp := op k k0 k1
  unfold pcl at hp
  have hl := ol l l0 l1
  unfold lnk at hl
  have hoc := sOpen_c A l (A 4)
  have e1 : -1 ≤ A (108 + 7 * k + 4) ∧ A (108 + 7 * k + 4) < 9 := by omega
  have e2 : 0 ≤ A (8 + 5 * l) ∧ A (8 + 5 * l) < 9 := by omega
  have e3 : 0 ≤ A (108 + 7 * k + 3) ∧ A (108 + 7 * k + 3) ≤ 20 := by omega
  have e4 : 1 ≤ A (108 + 7 * k + 2) ∧ A (108 + 7 * k + 2) ≤ 9 := by omega
  have e5 : k < 12 := by omega
  have e6 : l < 20 := by omega
  clear ol ob op oc hp hl
  by_cases h1 : A (108 + 7 * k + 4) = -1
  · rw [bC_f (fun hc => hc.1 h1)]
    simp (disch := omega) only [f_X8_maySend, f_X8_maySend_42, f_X8_maySend_41, hA, rz_4, ↓reduceIte, ↓nm_s, ↓lk_s, ↓pc_s, z_add, z_sub, z_mul, z_neg, z_le, z_lt, z_eq, z_ix, z_vin, z_rem, zc_0, zc_1, zc_2, zc_3, zc_4, zc_5, zc_6, zc_7, zc_8, zc_9, zc_10, zc_12, zc_20, zc_60, zc_80, zc_108, zc_120, zc_185, zc_192, zc_1344, zc_9999, zc_FAR, zc_NEV, ite_T, ite_F, bd_s, bd2_s, rz_z, toNat_cast, mR_at, mR_ne, mu_mR, il_t, il_f, ilt_t, ilt_f, ieq_t, ieq_f, nlt_t]
  · by_cases h2 : A (108 + 7 * k + 4) = A (8 + 5 * l)
    · by_cases h3 : 0 < A (108 + 7 * k + 3)
      · rcases hoc with h4 | h4
        · rw [bC_f (fun hc => by have := hc.2.2.2.1; omega)]
          rw [h4] at hop
          simp (disch := omega) only [f_X8_maySend, f_X8_maySend_42, f_X8_maySend_41, hA, rz_4, hop, ↓reduceIte, ↓nm_s, ↓lk_s, ↓pc_s, z_add, z_sub, z_mul, z_neg, z_le, z_lt, z_eq, z_ix, z_vin, z_rem, zc_0, zc_1, zc_2, zc_3, zc_4, zc_5, zc_6, zc_7, zc_8, zc_9, zc_10, zc_12, zc_20, zc_60, zc_80, zc_108, zc_120, zc_185, zc_192, zc_1344, zc_9999, zc_FAR, zc_NEV, ite_T, ite_F, bd_s, bd2_s, rz_z, toNat_cast, mR_at, mR_ne, mu_mR, il_t, il_f, ilt_t, ilt_f, ieq_t, ieq_f, nlt_t]
        · rw [h4] at hop
          by_cases h5 : sLoad A l + A (108 + 7 * k + 2) ≤ 10
          · rw [bC_t ⟨h1, h2, h3, h4, h5⟩]
            simp (disch := omega) only [f_X8_maySend, f_X8_maySend_42, f_X8_maySend_41, hA, rz_4, hop, hld, ↓reduceIte, ↓nm_s, ↓lk_s, ↓pc_s, z_add, z_sub, z_mul, z_neg, z_le, z_lt, z_eq, z_ix, z_vin, z_rem, zc_0, zc_1, zc_2, zc_3, zc_4, zc_5, zc_6, zc_7, zc_8, zc_9, zc_10, zc_12, zc_20, zc_60, zc_80, zc_108, zc_120, zc_185, zc_192, zc_1344, zc_9999, zc_FAR, zc_NEV, ite_T, ite_F, bd_s, bd2_s, rz_z, toNat_cast, mR_at, mR_ne, mu_mR, il_t, il_f, ilt_t, ilt_f, ieq_t, ieq_f, nlt_t]
          · rw [bC_f (fun hc => h5 hc.2.2.2.2)]
            simp (disch := omega) only [f_X8_maySend, f_X8_maySend_42, f_X8_maySend_41, hA, rz_4, hop, hld, ↓reduceIte, ↓nm_s, ↓lk_s, ↓pc_s, z_add, z_sub, z_mul, z_neg, z_le, z_lt, z_eq, z_ix, z_vin, z_rem, zc_0, zc_1, zc_2, zc_3, zc_4, zc_5, zc_6, zc_7, zc_8, zc_9, zc_10, zc_12, zc_20, zc_60, zc_80, zc_108, zc_120, zc_185, zc_192, zc_1344, zc_9999, zc_FAR, zc_NEV, ite_T, ite_F, bd_s, bd2_s, rz_z, toNat_cast, mR_at, mR_ne, mu_mR, il_t, il_f, ilt_t, ilt_f, ieq_t, ieq_f, nlt_t]
      · rw [bC_f (fun hc => h3 hc.2.2.1)]
        simp (disch := omega) only [f_X8_maySend, f_X8_maySend_42, f_X8_maySend_41, hA, rz_4, ↓reduceIte, ↓nm_s, ↓lk_s, ↓pc_s, z_add, z_sub, z_mul, z_neg, z_le, z_lt, z_eq, z_ix, z_vin, z_rem, zc_0, zc_1, zc_2, zc_3, zc_4, zc_5, zc_6, zc_7, zc_8, zc_9, zc_10, zc_12, zc_20, zc_60, zc_80, zc_108, zc_120, zc_185, zc_192, zc_1344, zc_9999, zc_FAR, zc_NEV, ite_T, ite_F, bd_s, bd2_s, rz_z, toNat_cast, mR_at, mR_ne, mu_mR, il_t, il_f, ilt_t, ilt_f, ieq_t, ieq_f, nlt_t]
    · rw [bC_f (fun hc => h2 hc.2.1)]
      simp (disch := omega) only [f_X8_maySend, f_X8_maySend_42, f_X8_maySend_41, hA, rz_4, ↓reduceIte, ↓nm_s, ↓lk_s, ↓pc_s, z_add, z_sub, z_mul, z_neg, z_le, z_lt, z_eq, z_ix, z_vin, z_rem, zc_0, zc_1, zc_2, zc_3, zc_4, zc_5, zc_6, zc_7, zc_8, zc_9, zc_10, zc_12, zc_20, zc_60, zc_80, zc_108, zc_120, zc_185, zc_192, zc_1344, zc_9999, zc_FAR, zc_NEV, ite_T, ite_F, bd_s, bd2_s, rz_z, toNat_cast, mR_at, mR_ne, mu_mR, il_t, il_f, ilt_t, ilt_f, ieq_t, ieq_f, nlt_t]
theorem g_X8_placeOf {p h : Int} {M : Mem} {A : Int → Int} (hO : Ok p h A) (hA : M 21 0 = rz A) {k : Int} (k0 : 0 ≤ k) (k1 : k < A 2) : f_X8_placeOfParcel M (iZ k) = some (iZ (sAt A k)) := by
  obtain ⟨o1, o2, o3, o4, o5, o6, o7, o8, o9, o10, o11, ol, ob, op, oc⟩ := hO
  have hp := op k k0 k1
  unfold pcl at hp
  unfold sAt
  have e1 : -1 ≤ A (108 + 7 * k + 4) ∧ A (108 + 7 * k + 4) < 9 := by omega
  have e2 : A (108 + 7 * k + 4) = -1 → 0 ≤ A (108 + 7 * k + 5) ∧ A (108 + 7 * k + 5) < 20 := fun _ => by omega
  have e5 : k < 12 := by omega
  clear ol ob op oc hp
  by_cases h1 : A (108 + 7 * k + 4) = -1
  · have e2 := e2 h1
    simp (disch := omega) only [f_X8_placeOfParcel, hA, ↓reduceIte, ↓nm_s, ↓lk_s, ↓pc_s, z_add, z_sub, z_mul, z_neg, z_le, z_lt, z_eq, z_ix, z_vin, z_rem, zc_0, zc_1, zc_2, zc_3, zc_4, zc_5, zc_6, zc_7, zc_8, zc_9, zc_10, zc_12, zc_20, zc_60, zc_80, zc_108, zc_120, zc_185, zc_192, zc_1344, zc_9999, zc_FAR, zc_NEV, ite_T, ite_F, bd_s, bd2_s, rz_z, toNat_cast, mR_at, mR_ne, mu_mR, il_t, il_f, ilt_t, ilt_f, ieq_t, ieq_f, nlt_t]
  · simp (disch := omega) only [f_X8_placeOfParcel, hA, ↓reduceIte, ↓nm_s, ↓lk_s, ↓pc_s, z_add, z_sub, z_mul, z_neg, z_le, z_lt, z_eq, z_ix, z_vin, z_rem, zc_0, zc_1, zc_2, zc_3, zc_4, zc_5, zc_6, zc_7, zc_8, zc_9, zc_10, zc_12, zc_20, zc_60, zc_80, zc_108, zc_120, zc_185, zc_192, zc_1344, zc_9999, zc_FAR, zc_NEV, ite_T, ite_F, bd_s, bd2_s, rz_z, toNat_cast, mR_at, mR_ne, mu_mR, il_t, il_f, ilt_t, ilt_f, ieq_t, ieq_f, nlt_t]
theorem g_X8_forecastOf {p h : Int} {M : Mem} {A : Int → Int} (hO : Ok p h A) (hm : Rm p h) (hA : M 21 0 = rz A) {k : Int} (k0 : 0 ≤ k) (k1 : k < A 2) : ∃ D, f_X8_forecastOf M (iZ k) = some (iZ (sFc A k), mR M 27 0 D) := by
  have hsa := sAt_in hO k0 k1
  have hrd := sRdy_in hO k0 k1
  have hpl := g_X8_placeOf hO hA k0 k1
  have hO2 := hO
  obtain ⟨o1, o2, o3, o4, o5, o6, o7, o8, o9, o10, o11, ol, ob, op, oc⟩ := hO2
  have hp := op k k0 k1
  unfold pcl at hp
  unfold Rm at hm
  obtain ⟨D, h1⟩ := g_X8_earliest hO hA (o := sAt A k) (t := sRdy A k) (v := A (108 + 7 * k + 1)) (by omega) (by omega) (by omega) (by omega) (by omega) (by omega)
  refine ⟨D, ?_⟩
  have hd : sRdy A k = if A (108 + 7 * k + 4) = -1 then A (108 + 7 * k + 6) else A 4 := rfl
  have e1 : -1 ≤ A (108 + 7 * k + 4) ∧ A (108 + 7 * k + 4) < 9 := by omega
  have e5 : k < 12 := by omega
  unfold sFc
  clear ol ob op oc hp
  by_cases hw : A (108 + 7 * k + 4) = -1
  · rw [if_pos hw] at hd
    rw [hd] at h1 ⊢
    simp (disch := omega) only [f_X8_forecastOf, f_X8_forecastOf_36, hA, hpl, h1, ↓reduceIte, ↓nm_s, ↓lk_s, ↓pc_s, z_add, z_sub, z_mul, z_neg, z_le, z_lt, z_eq, z_ix, z_vin, z_rem, zc_0, zc_1, zc_2, zc_3, zc_4, zc_5, zc_6, zc_7, zc_8, zc_9, zc_10, zc_12, zc_20, zc_60, zc_80, zc_108, zc_120, zc_185, zc_192, zc_1344, zc_9999, zc_FAR, zc_NEV, ite_T, ite_F, bd_s, bd2_s, rz_z, toNat_cast, mR_at, mR_ne, mu_mR, il_t, il_f, ilt_t, ilt_f, ieq_t, ieq_f, nlt_t]
  · rw [if_neg hw] at hd
    rw [hd] at h1 ⊢
    simp (disch := omega) only [f_X8_forecastOf, f_X8_forecastOf_36, hA, rz_4, hpl, h1, ↓reduceIte, ↓nm_s, ↓lk_s, ↓pc_s, z_add, z_sub, z_mul, z_neg, z_le, z_lt, z_eq, z_ix, z_vin, z_rem, zc_0, zc_1, zc_2, zc_3, zc_4, zc_5, zc_6, zc_7, zc_8, zc_9, zc_10, zc_12, zc_20, zc_60, zc_80, zc_108, zc_120, zc_185, zc_192, zc_1344, zc_9999, zc_FAR, zc_NEV, ite_T, ite_F, bd_s, bd2_s, rz_z, toNat_cast, mR_at, mR_ne, mu_mR, il_t, il_f, ilt_t, ilt_f, ieq_t, ieq_f, nlt_t]
theorem g_X8_next_18 {p h : Int} {M : Mem} {A : Int → Int} (hO : Ok p h A) (hm : Rm p h) (hA : M 21 0 = rz A) {k : Int} (k0 : 0 ≤ k) (k1 : k < A 2) (hk : A (108 + 7 * k + 4) ≠ -1) (hF : sFc A k < 1000000) (hF0 : 0 ≤ sFc A k) :
    ∀ (n f : Nat) (x : Int) (D : Int → Int), (n : Int) ≤ A 1 → n < f → ∃ D2, f_X8_next_18 f (mR M 27 0 D) (iZ k) (iZ (sFc A k)) (iZ x) (iZ ((n : Int) - 1)) = some (iZ (if fF (cNx A k) n 0 = -1 then x else fF (cNx A k) n 0), mR M 27 0 D2) := by
  have hO2 := hO
  obtain ⟨o1, o2, o3, o4, o5, o6, o7, o8, o9, o10, o11, ol, ob, op, oc⟩ := hO2
  have hp := op k k0 k1
  unfold pcl at hp
  have hm2 := hm
  unfold Rm at hm2
  have e1 : 0 ≤ A (108 + 7 * k + 4) ∧ A (108 + 7 * k + 4) < 9 := by omega
  have e5 : k < 12 := by omega
  have e7 : 0 ≤ A (108 + 7 * k + 1) ∧ A (108 + 7 * k + 1) < 9 := by omega
  intro n
  induction n with
  | zero =>
    intro f x D hn hf
    obtain ⟨f, rfl⟩ : ∃ g, f = g + 1 := ⟨f - 1, by omega⟩
    refine ⟨D, ?_⟩
    rw [show fF (cNx A k) 0 0 = -1 from rfl, if_pos rfl]
    clear ol ob op oc hp
    simp (disch := omega) only [f_X8_next_18, ↓reduceIte, ↓nm_s, ↓lk_s, ↓pc_s, z_add, z_sub, z_mul, z_neg, z_le, z_lt, z_eq, z_ix, z_vin, z_rem, zc_0, zc_1, zc_2, zc_3, zc_4, zc_5, zc_6, zc_7, zc_8, zc_9, zc_10, zc_12, zc_20, zc_60, zc_80, zc_108, zc_120, zc_185, zc_192, zc_1344, zc_9999, zc_FAR, zc_NEV, ite_T, ite_F, bd_s, bd2_s, rz_z, toNat_cast, mR_at, mR_ne, mu_mR, il_t, il_f, ilt_t, ilt_f, ieq_t, ieq_f, nlt_t]
  | succ n ih =>
    intro f x D hn hf
    obtain ⟨f, rfl⟩ : ∃ g, f = g + 1 := ⟨f - 1, by omega⟩
    have hl := ol n (by omega) (by omega)
    unfold lnk at hl
    have hA2 : mR M 27 0 D 21 0 = rz A := by rw [mR_ne _ _ (by omega)]; exact hA
    have hop := g_X8_isOpen hO hA2 (k := n) (by omega) (by omega) (t := A 4) (by omega) (by omega)
    obtain ⟨D2, hse⟩ := g_X8_earliest hO hA2 (o := A (8 + 5 * (n : Int) + 1)) (t := A 4 + A (8 + 5 * (n : Int) + 2)) (v := A (108 + 7 * k + 1)) (by omega) (by omega) (by omega) (by omega) (by omega) (by omega)
    rw [mR_mR] at hse
    have hei := eT_in hO (o := A (8 + 5 * (n : Int) + 1)) (t := A 4 + A (8 + 5 * (n : Int) + 2)) (v := A (108 + 7 * k + 1)) (by omega) (by omega) (by omega) (by omega) (by omega) (by omega)
    rw [show ((n + 1 : Nat) : Int) - 1 = (n : Int) by omega]
    rw [fF_sn n 0 (by omega), Int.zero_add]
    have e8 : 0 ≤ A (8 + 5 * (n : Int)) ∧ A (8 + 5 * (n : Int)) < 9 := by omega
    have e9 : (n : Int) < 20 := by omega
    clear ol ob op oc hp hl
    by_cases h1 : A (8 + 5 * (n : Int)) = A (108 + 7 * k + 4) ∧ sOpen A n (A 4) = 1
    · rw [h1.2] at hop
      have h11 := h1.1
      by_cases h2 : eT A (A (8 + 5 * (n : Int) + 1)) (A 4 + A (8 + 5 * (n : Int) + 2)) (A (108 + 7 * k + 1)) = sFc A k
      · obtain ⟨D3, h3⟩ := ih f n D2 (by omega) (by omega)
        refine ⟨D3, ?_⟩
        rw [@if_pos _ (Classical.propDecidable _) (show cNx A k n from ⟨h1.1, h1.2, h2⟩)]
        have hx : (if (if fF (cNx A k) n 0 = -1 then (n : Int) else fF (cNx A k) n 0) = -1 then x else if fF (cNx A k) n 0 = -1 then (n : Int) else fF (cNx A k) n 0) = if fF (cNx A k) n 0 = -1 then (n : Int) else fF (cNx A k) n 0 := by
          by_cases hh : fF (cNx A k) n 0 = -1
          · rw [if_pos hh, if_neg (by omega)]
          · rw [if_neg hh, if_neg hh]
        rw [hx, ← h3]
        rw [h2] at hse
        simp (disch := omega) only [f_X8_next_18, f_X8_next_131, f_X8_next_77, f_X8_next_76, hA2, rz_4, hop, hse, ↓reduceIte, ↓nm_s, ↓lk_s, ↓pc_s, z_add, z_sub, z_mul, z_neg, z_le, z_lt, z_eq, z_ix, z_vin, z_rem, zc_0, zc_1, zc_2, zc_3, zc_4, zc_5, zc_6, zc_7, zc_8, zc_9, zc_10, zc_12, zc_20, zc_60, zc_80, zc_108, zc_120, zc_185, zc_192, zc_1344, zc_9999, zc_FAR, zc_NEV, ite_T, ite_F, bd_s, bd2_s, rz_z, toNat_cast, mR_at, mR_ne, mu_mR, il_t, il_f, ilt_t, ilt_f, ieq_t, ieq_f, nlt_t]
        rw [show (n : Int) + -1 = (n : Int) - 1 by omega]
      · obtain ⟨D3, h3⟩ := ih f x D2 (by omega) (by omega)
        refine ⟨D3, ?_⟩
        rw [@if_neg _ (Classical.propDecidable _) (show ¬ cNx A k n from fun hc => h2 hc.2.2)]
        have hx : (if (if fF (cNx A k) n 0 = -1 then (-1 : Int) else fF (cNx A k) n 0) = -1 then x else if fF (cNx A k) n 0 = -1 then (-1 : Int) else fF (cNx A k) n 0) = if fF (cNx A k) n 0 = -1 then x else fF (cNx A k) n 0 := by
          by_cases hh : fF (cNx A k) n 0 = -1
          · simp only [hh, if_true]
          · simp only [hh, if_false]
        rw [hx, ← h3]
        simp (disch := omega) only [f_X8_next_18, f_X8_next_131, f_X8_next_77, f_X8_next_76, hA2, rz_4, hop, hse, ↓reduceIte, ↓nm_s, ↓lk_s, ↓pc_s, z_add, z_sub, z_mul, z_neg, z_le, z_lt, z_eq, z_ix, z_vin, z_rem, zc_0, zc_1, zc_2, zc_3, zc_4, zc_5, zc_6, zc_7, zc_8, zc_9, zc_10, zc_12, zc_20, zc_60, zc_80, zc_108, zc_120, zc_185, zc_192, zc_1344, zc_9999, zc_FAR, zc_NEV, ite_T, ite_F, bd_s, bd2_s, rz_z, toNat_cast, mR_at, mR_ne, mu_mR, il_t, il_f, ilt_t, ilt_f, ieq_t, ieq_f, nlt_t]
        rw [show (n : Int) + -1 = (n : Int) - 1 by omega]
    · obtain ⟨D3, h3⟩ := ih f x D (by omega) (by omega)
      refine ⟨D3, ?_⟩
      rw [@if_neg _ (Classical.propDecidable _) (show ¬ cNx A k n from fun hc => h1 ⟨hc.1, hc.2.1⟩)]
      have hx : (if (if fF (cNx A k) n 0 = -1 then (-1 : Int) else fF (cNx A k) n 0) = -1 then x else if fF (cNx A k) n 0 = -1 then (-1 : Int) else fF (cNx A k) n 0) = if fF (cNx A k) n 0 = -1 then x else fF (cNx A k) n 0 := by
        by_cases hh : fF (cNx A k) n 0 = -1
        · simp only [hh, if_true]
        · simp only [hh, if_false]
      rw [hx, ← h3]
      by_cases h4 : A (8 + 5 * (n : Int)) = A (108 + 7 * k + 4)
      · have h5 : sOpen A n (A 4) = 0 := by
          rcases sOpen_c A n (A 4) with h6 | h6
          · exact h6
          · exact absurd ⟨h4, h6⟩ h1
        rw [h5] at hop
        simp (disch := omega) only [f_X8_next_18, f_X8_next_131, f_X8_next_77, f_X8_next_76, hA2, rz_4, hop, ↓reduceIte, ↓nm_s, ↓lk_s, ↓pc_s, z_add, z_sub, z_mul, z_neg, z_le, z_lt, z_eq, z_ix, z_vin, z_rem, zc_0, zc_1, zc_2, zc_3, zc_4, zc_5, zc_6, zc_7, zc_8, zc_9, zc_10, zc_12, zc_20, zc_60, zc_80, zc_108, zc_120, zc_185, zc_192, zc_1344, zc_9999, zc_FAR, zc_NEV, ite_T, ite_F, bd_s, bd2_s, rz_z, toNat_cast, mR_at, mR_ne, mu_mR, il_t, il_f, ilt_t, ilt_f, ieq_t, ieq_f, nlt_t]
        rw [show (n : Int) + -1 = (n : Int) - 1 by omega]
      · simp (disch := omega) only [f_X8_next_18, f_X8_next_131, f_X8_next_77, f_X8_next_76, hA2, rz_4, ↓reduceIte, ↓nm_s, ↓lk_s, ↓pc_s, z_add, z_sub, z_mul, z_neg, z_le, z_lt, z_eq, z_ix, z_vin, z_rem, zc_0, zc_1, zc_2, zc_3, zc_4, zc_5, zc_6, zc_7, zc_8, zc_9, zc_10, zc_12, zc_20, zc_60, zc_80, zc_108, zc_120, zc_185, zc_192, zc_1344, zc_9999, zc_FAR, zc_NEV, ite_T, ite_F, bd_s, bd2_s, rz_z, toNat_cast, mR_at, mR_ne, mu_mR, il_t, il_f, ilt_t, ilt_f, ieq_t, ieq_f, nlt_t]
        rw [show (n : Int) + -1 = (n : Int) - 1 by omega]
theorem g_X8_next {p h : Int} {M : Mem} {A : Int → Int} (hO : Ok p h A) (hm : Rm p h) (hA : M 21 0 = rz A) {k : Int} (k0 : 0 ≤ k) (k1 : k < A 2) (hk : A (108 + 7 * k + 4) ≠ -1) : ∃ D, f_X8_next M (iZ k) = some (iZ (sNext A k), mR M 27 0 D) := by
  have hsa := sAt_in hO k0 k1
  have hrd := sRdy_in hO k0 k1
  obtain ⟨D, h1⟩ := g_X8_forecastOf hO hm hA k0 k1
  have hA2 : mR M 27 0 D 21 0 = rz A := by rw [mR_ne _ _ (by omega)]; exact hA
  have hO2 := hO
  obtain ⟨o1, o2, o3, o4, o5, o6, o7, o8, o9, o10, o11, ol, ob, op, oc⟩ := hO2
  have hp := op k k0 k1
  unfold pcl at hp
  have hm2 := hm
  unfold Rm at hm2
  have hfc : 0 ≤ sFc A k ∧ sFc A k ≤ 1000000 := eT_in hO (o := sAt A k) (t := sRdy A k) (v := A (108 + 7 * k + 1)) (by omega) (by omega) (by omega) (by omega) (by omega) (by omega)
  clear ol ob op oc hp
  by_cases hF : sFc A k = 1000000
  · refine ⟨D, ?_⟩
    rw [hF] at h1
    have hx : sNext A k = -1 := by unfold sNext; rw [if_pos hF]
    rw [hx]
    unfold f_X8_next
    rw [h1, bd2_s, hA2, rz_1, zc_1, z_neg, z_sub]
    unfold FU f_X8_next_18
    by_cases hL : A 1 - 1 < 0 <;> simp (disch := omega) only [↓reduceIte, ↓nm_s, ↓lk_s, ↓pc_s, z_add, z_sub, z_mul, z_neg, z_le, z_lt, z_eq, z_ix, z_vin, z_rem, zc_0, zc_1, zc_2, zc_3, zc_4, zc_5, zc_6, zc_7, zc_8, zc_9, zc_10, zc_12, zc_20, zc_60, zc_80, zc_108, zc_120, zc_185, zc_192, zc_1344, zc_9999, zc_FAR, zc_NEV, ite_T, ite_F, bd_s, bd2_s, rz_z, toNat_cast, mR_at, mR_ne, mu_mR, il_t, il_f, ilt_t, ilt_f, ieq_t, ieq_f, nlt_t]
  · obtain ⟨D2, h2⟩ := g_X8_next_18 hO hm hA k0 k1 hk (by omega) hfc.1 (A 1).toNat FU (-1) D (by omega) (by unfold FU; omega)
    rw [show ((A 1).toNat : Int) - 1 = A 1 - 1 by omega] at h2
    refine ⟨D2, ?_⟩
    have hx : sNext A k = if fF (cNx A k) (A 1).toNat 0 = -1 then -1 else fF (cNx A k) (A 1).toNat 0 := by
      unfold sNext
      rw [if_neg hF]
      split
      · next hh => exact hh
      · rfl
    rw [hx, ← h2]
    unfold f_X8_next
    rw [h1, bd2_s, hA2, rz_1, zc_1, z_neg, z_sub]
