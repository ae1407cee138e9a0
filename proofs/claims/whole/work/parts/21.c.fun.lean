theorem g_X8_reaches_33 {p h : Int} {M : Mem} {A : Int → Int} (hO : Ok p h A) (hA : M 21 0 = rz A) {o t : Int} (t0 : 0 ≤ t) (t1 : t ≤ 900000) :
    ∀ (n f : Nat) (D : Int → Int), pH 1000000 t 81 D ≤ n → n + 1 < f → IvT A o t D → ∃ D2, f_X8_reaches_33 f (mR M 27 0 D) (iZ 1) = some (mR M 27 0 D2) ∧ IvT A o t D2 ∧ CdT A D2 := by
  have o3 := hO.2.2.1
  have o4 := hO.2.2.2.1
  intro n
  induction n with
  | zero =>
    intro f D hp hf hI
    obtain ⟨f, rfl⟩ : ∃ g, f = g + 2 := ⟨f - 2, by omega⟩
    obtain ⟨D2, m2, h1, h2, h3, h4, h5, h6, h7⟩ := g_X8_reaches_42 hO hA t0 t1 (f_X8_reaches_33 (f + 1)) (A 1).toNat FU 0 0 D (by omega) (by omega) (by unfold FU; omega) (by omega) (by omega) hI
    have hz := pH_0 h2 (w := 81) (by omega)
    obtain rfl : m2 = 0 := by
      by_cases hm : m2 = 0
      · exact hm
      · have := h7 rfl (by omega); omega
    obtain ⟨-, rfl, a3⟩ := h6 rfl
    refine ⟨D2, ?_, h2, fun k k0 k1 ku ks => a3 k k0 k1 ku ks⟩
    unfold f_X8_reaches_33
    simp (disch := omega) only [zc_0, z_eq, ieq_f, ↓reduceIte]
    rw [h1]
    unfold f_X8_reaches_33
    simp (disch := omega) only [zc_0, z_eq, ieq_t, ↓reduceIte]
  | succ n ih =>
    intro f D hp hf hI
    obtain ⟨f, rfl⟩ : ∃ g, f = g + 2 := ⟨f - 2, by omega⟩
    obtain ⟨D2, m2, h1, h2, h3, h4, h5, h6, h7⟩ := g_X8_reaches_42 hO hA t0 t1 (f_X8_reaches_33 (f + 1)) (A 1).toNat FU 0 0 D (by omega) (by omega) (by unfold FU; omega) (by omega) (by omega) hI
    by_cases hm : m2 = 0
    · subst hm
      obtain ⟨-, rfl, a3⟩ := h6 rfl
      refine ⟨D2, ?_, h2, fun k k0 k1 ku ks => a3 k k0 k1 ku ks⟩
      unfold f_X8_reaches_33
      simp (disch := omega) only [zc_0, z_eq, ieq_f, ↓reduceIte]
      rw [h1]
      unfold f_X8_reaches_33
      simp (disch := omega) only [zc_0, z_eq, ieq_t, ↓reduceIte]
    · obtain rfl : m2 = 1 := by omega
      obtain ⟨D3, e1, e2, e3⟩ := ih (f + 1) D2 (by have := h7 rfl rfl; omega) (by omega) h2
      refine ⟨D3, ?_, e2, e3⟩
      unfold f_X8_reaches_33
      simp (disch := omega) only [zc_0, z_eq, ieq_f, ↓reduceIte]
      rw [h1, e1]
theorem g_X8_reaches_2 {M : Mem} {o t : Int} (o0 : 0 ≤ o) (o1 : o < 9) : ∀ (n f : Nat) (i : Int) (R : Int → Int), 0 ≤ i → i + n = 9 → n < f → (∀ v, 0 ≤ v → v < i → R v = Iv0 1000000 o t v) → ∃ R2, f_X8_reaches_2 f (mR M 27 0 R) (iZ o) (iZ t) (iZ i) = f_X8_reaches_33 FU (mR M 27 0 R2) (iZ 1) ∧ ∀ v, 0 ≤ v → v < 9 → R2 v = Iv0 1000000 o t v := by
  intro n
  induction n with
  | zero =>
    intro f i R i0 hi hf hR
    obtain ⟨f, rfl⟩ : ∃ g, f = g + 1 := ⟨f - 1, by omega⟩
    refine ⟨R, ?_, fun v v0 v1 => hR v v0 (by omega)⟩
    simp (disch := omega) only [f_X8_reaches_2, ↓reduceIte, ↓nm_s, ↓lk_s, ↓pc_s, z_add, z_sub, z_mul, z_neg, z_le, z_lt, z_eq, z_ix, z_vin, z_rem, zc_0, zc_1, zc_2, zc_3, zc_4, zc_5, zc_6, zc_7, zc_8, zc_9, zc_10, zc_12, zc_20, zc_60, zc_80, zc_108, zc_120, zc_185, zc_192, zc_1344, zc_9999, zc_FAR, zc_NEV, ite_T, ite_F, bd_s, bd2_s, rz_z, toNat_cast, mR_at, mR_ne, mu_mR, il_t, il_f, ilt_t, ilt_f, ieq_t, ieq_f, nlt_t]
  | succ n ih =>
    intro f i R i0 hi hf hR
    obtain ⟨f, rfl⟩ : ∃ g, f = g + 1 := ⟨f - 1, by omega⟩
    by_cases hio : i = o
    · obtain ⟨R2, h1, h2⟩ := ih f (i + 1) (uI R i t) (by omega) (by omega) (by omega) (fun v v0 v1 => by
        unfold Iv0 uI at *
        by_cases hv : v = i
        · rw [if_pos hv, if_pos (by omega)]
        · rw [if_neg hv]; exact hR v v0 (by omega))
      refine ⟨R2, ?_, h2⟩
      rw [← h1]
      simp (disch := omega) only [f_X8_reaches_2, f_X8_reaches_24, ↓reduceIte, ↓nm_s, ↓lk_s, ↓pc_s, z_add, z_sub, z_mul, z_neg, z_le, z_lt, z_eq, z_ix, z_vin, z_rem, zc_0, zc_1, zc_2, zc_3, zc_4, zc_5, zc_6, zc_7, zc_8, zc_9, zc_10, zc_12, zc_20, zc_60, zc_80, zc_108, zc_120, zc_185, zc_192, zc_1344, zc_9999, zc_FAR, zc_NEV, ite_T, ite_F, bd_s, bd2_s, rz_z, toNat_cast, mR_at, mR_ne, mu_mR, il_t, il_f, ilt_t, ilt_f, ieq_t, ieq_f, nlt_t]
    · obtain ⟨R2, h1, h2⟩ := ih f (i + 1) (uI R i 1000000) (by omega) (by omega) (by omega) (fun v v0 v1 => by
        unfold Iv0 uI at *
        by_cases hv : v = i
        · rw [if_pos hv, if_neg (by omega)]
        · rw [if_neg hv]; exact hR v v0 (by omega))
      refine ⟨R2, ?_, h2⟩
      rw [← h1]
      simp (disch := omega) only [f_X8_reaches_2, f_X8_reaches_24, ↓reduceIte, ↓nm_s, ↓lk_s, ↓pc_s, z_add, z_sub, z_mul, z_neg, z_le, z_lt, z_eq, z_ix, z_vin, z_rem, zc_0, zc_1, zc_2, zc_3, zc_4, zc_5, zc_6, zc_7, zc_8, zc_9, zc_10, zc_12, zc_20, zc_60, zc_80, zc_108, zc_120, zc_185, zc_192, zc_1344, zc_9999, zc_FAR, zc_NEV, ite_T, ite_F, bd_s, bd2_s, rz_z, toNat_cast, mR_at, mR_ne, mu_mR, il_t, il_f, ilt_t, ilt_f, ieq_t, ieq_f, nlt_t]
theorem g_X8_reaches {p h : Int} {M : Mem} {A : Int → Int} (hO : Ok p h A) (hA : M 21 0 = rz A) {o t : Int} (o0 : 0 ≤ o) (oP : o < A 0) (t0 : 0 ≤ t) (t1 : t ≤ 900000) :
    ∃ D, f_X8_reaches M (iZ o) (iZ t) = some (mR M 27 0 D) ∧ ∀ v, 0 ≤ v → v < 9 → D v = eT A o t v := by
  have o2 := hO.2.1
  obtain ⟨R, -, -, hMR⟩ := mR_self M 27 0
  obtain ⟨R2, h1, h2⟩ := g_X8_reaches_2 (M := M) (t := t) o0 (by omega) 9 FU 0 R (by omega) (by omega) (by unfold FU; omega) (fun v v0 v1 => by omega)
  have hI : IvT A o t R2 := Iv_cg o0 (by omega) h2 (Iv0_iv o0 (by omega) (by omega))
  have h9 := pH_9 (by omega) hI (w := 81) (by omega)
  obtain ⟨D2, e1, e2, e3⟩ := g_X8_reaches_33 hO hA t0 t1 (pH 1000000 t 81 R2).toNat FU R2 (by omega) (by unfold FU; omega) hI
  refine ⟨D2, ?_, fun v v0 v1 => EaT.is hO o0 oP (by omega) v0 v1 (e2.ea (Gr_T hO) o0 oP (by omega) e3 v0 v1)⟩
  unfold f_X8_reaches
  rw [← e1, ← h1, ← hMR]
  rfl
theorem g_X8_earliest {p h : Int} {M : Mem} {A : Int → Int} (hO : Ok p h A) (hA : M 21 0 = rz A) {o t v : Int} (o0 : 0 ≤ o) (oP : o < A 0) (t0 : 0 ≤ t) (t1 : t ≤ 900000) (v0 : 0 ≤ v) (v1 : v < 9) :
    ∃ D, f_X8_earliest M (iZ o) (iZ v) (iZ t) = some (iZ (eT A o t v), mR M 27 0 D) := by
  obtain ⟨D, h1, h2⟩ := g_X8_reaches hO hA o0 oP t0 t1
  refine ⟨D, ?_⟩
  unfold f_X8_earliest
  rw [bdq h1]
  simp (disch := omega) only [↓reduceIte, ↓nm_s, ↓lk_s, ↓pc_s, z_add, z_sub, z_mul, z_neg, z_le, z_lt, z_eq, z_ix, z_vin, z_rem, zc_0, zc_1, zc_2, zc_3, zc_4, zc_5, zc_6, zc_7, zc_8, zc_9, zc_10, zc_12, zc_20, zc_60, zc_80, zc_108, zc_120, zc_185, zc_192, zc_1344, zc_9999, zc_FAR, zc_NEV, ite_T, ite_F, bd_s, bd2_s, rz_z, toNat_cast, mR_at, mR_ne, mu_mR, il_t, il_f, ilt_t, ilt_f, ieq_t, ieq_f, nlt_t]
  rw [h2 v v0 v1]
