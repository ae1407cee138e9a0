theorem mR_mR (M : Mem) (a i : Nat) (A B : Int → Int) : mR (mR M a i A) a i B = mR M a i B := by
  funext b j
  unfold mR
  split <;> rfl
/-- the same but for what the class works with -/
theorem Cl_rows {M M2 : Mem} {s : Nat} {A : Int → Int} (h : ∀ a i, a = 1 ∨ a = 2 ∨ a = 4 ∨ a = 5 ∨ a = 6 → M2 a i = M a i) (hC : Cl M s A) : Cl M2 s A := by
  unfold Cl at *
  have e1 := h 1 s (by omega)
  have e2 := h 2 s (by omega)
  have e5 := h 5 s (by omega)
  have e4 := fun i => h 4 i (by omega)
  have e6 := fun i => h 6 i (by omega)
  simp only [e1, e2, e4, e5, e6]
  exact hC
theorem Cl_mW {M : Mem} {s : Nat} {A : Int → Int} (D S : Int → Int) (hC : Cl M s A) : Cl (mW M D S) s A := Cl_rows (fun a i h => mW_ne _ _ _ (by omega)) hC
theorem Cl_mR {M : Mem} {s : Nat} {A : Int → Int} {a : Nat} (i : Nat) (D : Int → Int) (h : a ≠ 1 ∧ a ≠ 2 ∧ a ≠ 4 ∧ a ≠ 5 ∧ a ≠ 6) (hC : Cl M s A) : Cl (mR M a i D) s A := Cl_rows (fun b j hb => mR_ne _ _ (by omega)) hC
theorem Rw_rows {M M2 : Mem} {s : Nat} (h : M2 5 s = M 5 s) (hR : Rw M s) : Rw M2 s := by
  unfold Rw at *
  rw [h]
  exact hR
theorem g_canStart {p h : Int} {M : Mem} {s : Nat} {A : Int → Int} (hO : Ok p h A) (hm : Rm p h) (hR : Rw M s) (hC : Cl M s A) {k l : Int} (k0 : 0 ≤ k) (k1 : k < A 2) (l0 : 0 ≤ l) (l1 : l < A 1) :
    f_X5_canStartOver M s (ix (M 5 s k.toNat)) (iZ l) = some (iZ (bI (A (8 + 5 * l) = sAt A k ∧ sOpen A l (A 4) = 1))) := by
  have hsa := sAt_in hO k0 k1
  obtain ⟨o1, o2, o3, o4, o5, o6, o7, o8, o9, o10, o11, ol, ob, op, oc⟩ := hO
  obtain ⟨c0, c1, c2, c3, c4, c5, c6, c7, cl, cp⟩ := hC
  have hl := ol l l0 l1
  unfold lnk at hl
  unfold Rm at hm
  obtain ⟨q0, q1, q2, q3, q4⟩ := cl l l0 l1
  obtain ⟨p0, p1, p2, p3, p4, p5, p6⟩ := cp k k0 k1
  clear ol ob op oc cl cp
  unfold bI sOpen
  by_cases h1 : A (8 + 5 * l) = sAt A k
  · by_cases h2 : A (8 + 5 * l + 4) = 0
    · by_cases h3 : A 4 % 6 = A (8 + 5 * l + 3)
      · rw [if_neg (by rw [if_pos h2, if_pos h3]; omega)]
        simp (disch := omega) only [f_X5_canStartOver, f_X1_canLeaveAt, c4, q0, q3, q4, p4, ↓reduceIte, ↓nm_s, ↓lk_s, ↓pc_s, z_add, z_sub, z_mul, z_neg, z_le, z_lt, z_eq, z_ix, z_vin, z_rem, zc_0, zc_1, zc_2, zc_3, zc_4, zc_5, zc_6, zc_7, zc_8, zc_9, zc_10, zc_12, zc_20, zc_60, zc_80, zc_108, zc_120, zc_185, zc_192, zc_1344, zc_9999, zc_FAR, zc_NEV, ite_T, ite_F, bd_s, bd2_s, rz_z, toNat_cast, mR_at, mR_ne, mu_mR, il_t, il_f, ilt_t, ilt_f, ieq_t, ieq_f, nlt_t]
      · rw [if_pos (by rw [if_pos h2, if_neg h3]; omega)]
        simp (disch := omega) only [f_X5_canStartOver, f_X1_canLeaveAt, c4, q0, q3, q4, p4, ↓reduceIte, ↓nm_s, ↓lk_s, ↓pc_s, z_add, z_sub, z_mul, z_neg, z_le, z_lt, z_eq, z_ix, z_vin, z_rem, zc_0, zc_1, zc_2, zc_3, zc_4, zc_5, zc_6, zc_7, zc_8, zc_9, zc_10, zc_12, zc_20, zc_60, zc_80, zc_108, zc_120, zc_185, zc_192, zc_1344, zc_9999, zc_FAR, zc_NEV, ite_T, ite_F, bd_s, bd2_s, rz_z, toNat_cast, mR_at, mR_ne, mu_mR, il_t, il_f, ilt_t, ilt_f, ieq_t, ieq_f, nlt_t]
    · rw [if_neg (by rw [if_neg h2]; omega)]
      simp (disch := omega) only [f_X5_canStartOver, f_X1_canLeaveAt, c4, q0, q3, q4, p4, ↓reduceIte, ↓nm_s, ↓lk_s, ↓pc_s, z_add, z_sub, z_mul, z_neg, z_le, z_lt, z_eq, z_ix, z_vin, z_rem, zc_0, zc_1, zc_2, zc_3, zc_4, zc_5, zc_6, zc_7, zc_8, zc_9, zc_10, zc_12, zc_20, zc_60, zc_80, zc_108, zc_120, zc_185, zc_192, zc_1344, zc_9999, zc_FAR, zc_NEV, ite_T, ite_F, bd_s, bd2_s, rz_z, toNat_cast, mR_at, mR_ne, mu_mR, il_t, il_f, ilt_t, ilt_f, ieq_t, ieq_f, nlt_t]
  · rw [if_neg (fun hc => h1 hc.1)]
    simp (disch := omega) only [f_X5_canStartOver, f_X1_canLeaveAt, c4, q0, q3, q4, p4, ↓reduceIte, ↓nm_s, ↓lk_s, ↓pc_s, z_add, z_sub, z_mul, z_neg, z_le, z_lt, z_eq, z_ix, z_vin, z_rem, zc_0, zc_1, zc_2, zc_3, zc_4, zc_5, zc_6, zc_7, zc_8, zc_9, zc_10, zc_12, zc_20, zc_60, zc_80, zc_108, zc_120, zc_185, zc_192, zc_1344, zc_9999, zc_FAR, zc_NEV, ite_T, ite_F, bd_s, bd2_s, rz_z, toNat_cast, mR_at, mR_ne, mu_mR, il_t, il_f, ilt_t, ilt_f, ieq_t, ieq_f, nlt_t]
theorem sLoad_nn {p h : Int} {A : Int → Int} (hO : Ok p h A) (l : Int) : 0 ≤ sLoad A l ∧ sLoad A l ≤ 108 := by
  obtain ⟨o1, o2, o3, o4, o5, o6, o7, o8, o9, o10, o11, ol, ob, op, oc⟩ := hO
  have h1 := sF_nn (f := fun k => if A (108 + 7 * k + 5) = l then A (108 + 7 * k + 2) else 0) (A 2).toNat 0 (fun k k0 k1 => by
    have hp := op k k0 (by omega)
    unfold pcl at hp
    show 0 ≤ if A (108 + 7 * k + 5) = l then A (108 + 7 * k + 2) else 0
    split <;> omega)
  have h2 := sF_le (f := fun k => if A (108 + 7 * k + 5) = l then A (108 + 7 * k + 2) else 0) (b := 9) (A 2).toNat 0 (fun k k0 k1 => by
    have hp := op k k0 (by omega)
    unfold pcl at hp
    show (if A (108 + 7 * k + 5) = l then A (108 + 7 * k + 2) else 0) ≤ 9
    split <;> omega)
  unfold sLoad
  omega
theorem g_hasRoom {p h : Int} {M : Mem} {s : Nat} {A : Int → Int} (hO : Ok p h A) (hm : Rm p h) (hs : s ≤ 10) (hR : Rw M s) (hC : Cl M s A) {k l : Int} (k0 : 0 ≤ k) (k1 : k < A 2) (l0 : 0 ≤ l) (l1 : l < A 1) :
    f_X5_hasRoomFor M s (ix (M 5 s k.toNat)) (iZ l) = some (iZ (bI (sLoad A l + A (108 + 7 * k + 2) ≤ 10))) := by
  have hw := g_weightOn hO hm hs hR hC (l := l) (by omega) (by have := hO.2.2.2.1; omega)
  have hn := sLoad_nn hO l
  obtain ⟨o1, o2, o3, o4, o5, o6, o7, o8, o9, o10, o11, ol, ob, op, oc⟩ := hO
  obtain ⟨c0, c1, c2, c3, c4, c5, c6, c7, cl, cp⟩ := hC
  have hp := op k k0 k1
  unfold pcl at hp
  obtain ⟨p0, p1, p2, p3, p4, p5, p6⟩ := cp k k0 k1
  have hp2 : 1 ≤ A (108 + 7 * k + 2) ∧ A (108 + 7 * k + 2) ≤ 9 := by omega
  clear ol ob op oc cl cp hp
  unfold bI
  by_cases h1 : sLoad A l + A (108 + 7 * k + 2) ≤ 10
  · rw [if_pos h1]
    simp (disch := omega) only [f_X5_hasRoomFor, hw, p1, ↓reduceIte, ↓nm_s, ↓lk_s, ↓pc_s, z_add, z_sub, z_mul, z_neg, z_le, z_lt, z_eq, z_ix, z_vin, z_rem, zc_0, zc_1, zc_2, zc_3, zc_4, zc_5, zc_6, zc_7, zc_8, zc_9, zc_10, zc_12, zc_20, zc_60, zc_80, zc_108, zc_120, zc_185, zc_192, zc_1344, zc_9999, zc_FAR, zc_NEV, ite_T, ite_F, bd_s, bd2_s, rz_z, toNat_cast, mR_at, mR_ne, mu_mR, il_t, il_f, ilt_t, ilt_f, ieq_t, ieq_f, nlt_t]
  · rw [if_neg h1]
    simp (disch := omega) only [f_X5_hasRoomFor, hw, p1, ↓reduceIte, ↓nm_s, ↓lk_s, ↓pc_s, z_add, z_sub, z_mul, z_neg, z_le, z_lt, z_eq, z_ix, z_vin, z_rem, zc_0, zc_1, zc_2, zc_3, zc_4, zc_5, zc_6, zc_7, zc_8, zc_9, zc_10, zc_12, zc_20, zc_60, zc_80, zc_108, zc_120, zc_185, zc_192, zc_1344, zc_9999, zc_FAR, zc_NEV, ite_T, ite_F, bd_s, bd2_s, rz_z, toNat_cast, mR_at, mR_ne, mu_mR, il_t, il_f, ilt_t, ilt_f, ieq_t, ieq_f, nlt_t]
def sRdy (A : Int → Int) (k : Int) : Int := if A (108 + 7 * k + 4) = -1 then A (108 + 7 * k + 6) else A 4
noncomputable def sFc (A : Int → Int) (k : Int) : Int := eT A (sAt A k) (sRdy A k) (A (108 + 7 * k + 1))
theorem sRdy_in {p h : Int} {A : Int → Int} (hO : Ok p h A) {k : Int} (k0 : 0 ≤ k) (k1 : k < A 2) : 0 ≤ sRdy A k ∧ sRdy A k ≤ h + 9 := by
  obtain ⟨o1, o2, o3, o4, o5, o6, o7, o8, o9, o10, o11, ol, ob, op, oc⟩ := hO
  have hp := op k k0 k1
  unfold pcl at hp
  unfold sRdy
  split <;> omega
theorem g_forecastOf {p h : Int} {M : Mem} {s : Nat} {A : Int → Int} (hO : Ok p h A) (hm : Rm p h) (hR : Rw M s) (hC : Cl M s A) {k : Int} (k0 : 0 ≤ k) (k1 : k < A 2) :
    ∃ D S, f_X5_forecastOf M s (ix (M 5 s k.toNat)) = some (iZ (nv (sFc A k)), mW M D S) := by
  have hsa := sAt_in hO k0 k1
  have hrd := sRdy_in hO k0 k1
  have hO2 := hO
  obtain ⟨o1, o2, o3, o4, o5, o6, o7, o8, o9, o10, o11, ol, ob, op, oc⟩ := hO2
  have hC2 := hC
  obtain ⟨c0, c1, c2, c3, c4, c5, c6, c7, cl, cp⟩ := hC2
  have hp := op k k0 k1
  unfold pcl at hp
  unfold Rm at hm
  obtain ⟨p0, p1, p2, p3, p4, p5, p6⟩ := cp k k0 k1
  obtain ⟨D, S, h1⟩ := g_settling hO hC (o := sAt A k) (t := sRdy A k) (w := A (108 + 7 * k + 1)) (by omega) (by omega) (by omega) (by omega) (by omega) (by omega)
  refine ⟨D, S, ?_⟩
  have hd : sRdy A k = if A (108 + 7 * k + 4) = -1 then A (108 + 7 * k + 6) else A 4 := rfl
  unfold sFc
  clear ol ob op oc cl cp
  by_cases hw : A (108 + 7 * k + 4) = -1
  · have p6 := p6 hw
    rw [if_pos hw] at hd
    rw [hd] at h1 ⊢
    simp (disch := omega) only [f_X5_forecastOf, f_X5_forecastOf_18, f_X3_isUnderWay, p3, p4, p5, p6, h1, ↓reduceIte, ↓nm_s, ↓lk_s, ↓pc_s, z_add, z_sub, z_mul, z_neg, z_le, z_lt, z_eq, z_ix, z_vin, z_rem, zc_0, zc_1, zc_2, zc_3, zc_4, zc_5, zc_6, zc_7, zc_8, zc_9, zc_10, zc_12, zc_20, zc_60, zc_80, zc_108, zc_120, zc_185, zc_192, zc_1344, zc_9999, zc_FAR, zc_NEV, ite_T, ite_F, bd_s, bd2_s, rz_z, toNat_cast, mR_at, mR_ne, mu_mR, il_t, il_f, ilt_t, ilt_f, ieq_t, ieq_f, nlt_t]
  · rw [if_neg hw] at hd
    rw [hd] at h1 ⊢
    simp (disch := omega) only [f_X5_forecastOf, f_X5_forecastOf_18, f_X3_isUnderWay, c4, p3, p4, p5, h1, ↓reduceIte, ↓nm_s, ↓lk_s, ↓pc_s, z_add, z_sub, z_mul, z_neg, z_le, z_lt, z_eq, z_ix, z_vin, z_rem, zc_0, zc_1, zc_2, zc_3, zc_4, zc_5, zc_6, zc_7, zc_8, zc_9, zc_10, zc_12, zc_20, zc_60, zc_80, zc_108, zc_120, zc_185, zc_192, zc_1344, zc_9999, zc_FAR, zc_NEV, ite_T, ite_F, bd_s, bd2_s, rz_z, toNat_cast, mR_at, mR_ne, mu_mR, il_t, il_f, ilt_t, ilt_f, ieq_t, ieq_f, nlt_t]
def cNx (A : Int → Int) (k l : Int) : Prop := A (8 + 5 * l) = A (108 + 7 * k + 4) ∧ sOpen A l (A 4) = 1 ∧ eT A (A (8 + 5 * l + 1)) (A 4 + A (8 + 5 * l + 2)) (A (108 + 7 * k + 1)) = sFc A k
noncomputable def sNext (A : Int → Int) (k : Int) : Int := if sFc A k = 1000000 then -1 else fF (cNx A k) (A 1).toNat 0
theorem nv_eq {a b : Int} (ha : a ≤ 1000000) (hb : b ≤ 1000000) : (nv a = nv b) = (a = b) := by
  unfold nv
  split <;> split <;> exact propext ⟨fun _ => by omega, fun _ => by omega⟩
theorem nv_in {a : Int} (h0 : 0 ≤ a) (h1 : a ≤ 1000000) : 0 ≤ nv a ∧ nv a ≤ 2147483647 := by unfold nv; split <;> omega
theorem eT_in {p h : Int} {A : Int → Int} (hO : Ok p h A) {o t v : Int} (ho : 0 ≤ o) (ho2 : o < A 0) (t0 : 0 ≤ t) (ht : t ≤ 900000) (h0 : 0 ≤ v) (h1 : v < 9) : 0 ≤ eT A o t v ∧ eT A o t v ≤ 1000000 := by
  have := eT_le hO ho ho2 ht h0 h1
  omega
theorem g_nextLinkOf_34 {p h : Int} {M : Mem} {s : Nat} {A : Int → Int} (hO : Ok p h A) (hm : Rm p h) (hR : Rw M s) (hC : Cl M s A) {k : Int} (k0 : 0 ≤ k) (k1 : k < A 2) (hk : A (108 + 7 * k + 4) ≠ -1) :
    ∀ (n f : Nat) (i : Int) (D S : Int → Int), 0 ≤ i → i + n = A 1 → n < f → ∃ D2 S2, f_X5_nextLinkOf_34 f (mW M D S) s (ix (M 5 s k.toNat)) (iZ (nv (sFc A k))) (iZ i) = some (iZ (fF (cNx A k) n i), mW M D2 S2) := by
  have hsa := sAt_in hO k0 k1
  have hrd := sRdy_in hO k0 k1
  have hsk : sAt A k = A (108 + 7 * k + 4) := by unfold sAt; rw [if_neg hk]
  have hO2 := hO
  obtain ⟨o1, o2, o3, o4, o5, o6, o7, o8, o9, o10, o11, ol, ob, op, oc⟩ := hO2
  have hC2 := hC
  obtain ⟨c0, c1, c2, c3, c4, c5, c6, c7, cl, cp⟩ := hC2
  have hp := op k k0 k1
  unfold pcl at hp
  have hm2 := hm
  unfold Rm at hm2
  obtain ⟨p0, p1, p2, p3, p4, p5, p6⟩ := cp k k0 k1
  have hfc := eT_in hO (o := sAt A k) (t := sRdy A k) (v := A (108 + 7 * k + 1)) (by omega) (by omega) (by omega) (by omega) (by omega) (by omega)
  have hfn := nv_in hfc.1 hfc.2
  intro n
  induction n with
  | zero =>
    intro f i D S i0 hi hf
    obtain ⟨f, rfl⟩ : ∃ g, f = g + 1 := ⟨f - 1, by omega⟩
    refine ⟨D, S, ?_⟩
    clear ol ob op oc cl cp hp
    simp (disch := omega) only [f_X5_nextLinkOf_34, mW_ne, c1, ↓reduceIte, ↓nm_s, ↓lk_s, ↓pc_s, z_add, z_sub, z_mul, z_neg, z_le, z_lt, z_eq, z_ix, z_vin, z_rem, zc_0, zc_1, zc_2, zc_3, zc_4, zc_5, zc_6, zc_7, zc_8, zc_9, zc_10, zc_12, zc_20, zc_60, zc_80, zc_108, zc_120, zc_185, zc_192, zc_1344, zc_9999, zc_FAR, zc_NEV, ite_T, ite_F, bd_s, bd2_s, rz_z, toNat_cast, mR_at, mR_ne, mu_mR, il_t, il_f, ilt_t, ilt_f, ieq_t, ieq_f, nlt_t]
    rfl
  | succ n ih =>
    intro f i D S i0 hi hf
    obtain ⟨f, rfl⟩ : ∃ g, f = g + 1 := ⟨f - 1, by omega⟩
    have hl := ol i i0 (by omega)
    unfold lnk at hl
    obtain ⟨q0, q1, q2, q3, q4⟩ := cl i i0 (by omega)
    have hcs := g_canStart (M := mW M D S) hO hm (Rw_rows (mW_ne _ _ _ (by omega)) hR) (Cl_mW D S hC) k0 k1 i0 (by omega : i < A 1)
    rw [mW_ne _ _ _ (by omega)] at hcs
    obtain ⟨D2, S2, hse⟩ := g_settling (M := mW M D S) hO (Cl_mW D S hC) (o := A (8 + 5 * i + 1)) (t := A 4 + A (8 + 5 * i + 2)) (w := A (108 + 7 * k + 1)) (by omega) (by omega) (by omega) (by omega) (by omega) (by omega)
    rw [mW_mW] at hse
    have hei := eT_in hO (o := A (8 + 5 * i + 1)) (t := A 4 + A (8 + 5 * i + 2)) (v := A (108 + 7 * k + 1)) (by omega) (by omega) (by omega) (by omega) (by omega) (by omega)
    have hen := nv_in hei.1 hei.2
    have hvq := nv_eq hei.2 hfc.2
    have hwk : 0 ≤ A (108 + 7 * k + 1) := by omega
    clear ol ob op oc cl cp hp
    by_cases h1 : A (8 + 5 * i) = sAt A k ∧ sOpen A i (A 4) = 1
    · have hb1 : bI (A (8 + 5 * i) = sAt A k ∧ sOpen A i (A 4) = 1) = 1 := if_pos h1
      rw [hb1] at hcs
      by_cases h2 : eT A (A (8 + 5 * i + 1)) (A 4 + A (8 + 5 * i + 2)) (A (108 + 7 * k + 1)) = sFc A k
      · refine ⟨D2, S2, ?_⟩
        have hnn : nv (eT A (A (8 + 5 * i + 1)) (A 4 + A (8 + 5 * i + 2)) (A (108 + 7 * k + 1))) = nv (sFc A k) := by rw [h2]
        rw [fF_t (show cNx A k i from ⟨by omega, h1.2, h2⟩)]
        simp (disch := omega) only [f_X5_nextLinkOf_34, mW_ne, c1, c4, q1, q2, p3, hcs, hse, hnn, ↓reduceIte, ↓nm_s, ↓lk_s, ↓pc_s, z_add, z_sub, z_mul, z_neg, z_le, z_lt, z_eq, z_ix, z_vin, z_rem, zc_0, zc_1, zc_2, zc_3, zc_4, zc_5, zc_6, zc_7, zc_8, zc_9, zc_10, zc_12, zc_20, zc_60, zc_80, zc_108, zc_120, zc_185, zc_192, zc_1344, zc_9999, zc_FAR, zc_NEV, ite_T, ite_F, bd_s, bd2_s, rz_z, toNat_cast, mR_at, mR_ne, mu_mR, il_t, il_f, ilt_t, ilt_f, ieq_t, ieq_f, nlt_t]
      · obtain ⟨D3, S3, h3⟩ := ih f (i + 1) D2 S2 (by omega) (by omega) (by omega)
        refine ⟨D3, S3, ?_⟩
        have hnn : nv (eT A (A (8 + 5 * i + 1)) (A 4 + A (8 + 5 * i + 2)) (A (108 + 7 * k + 1))) ≠ nv (sFc A k) := fun hh => h2 (by have : _ = _ := hvq ▸ hh; exact this)
        have hfn2 : nv (sFc A k) ≤ 2147483647 := hfn.2
        have hfn3 : 0 ≤ nv (sFc A k) := hfn.1
        rw [fF_f (show ¬ cNx A k i from fun hc => h2 hc.2.2), ← h3]
        simp (disch := omega) only [f_X5_nextLinkOf_34, f_X5_nextLinkOf_105, mW_ne, c1, c4, q1, q2, p3, hcs, hse, ↓reduceIte, ↓nm_s, ↓lk_s, ↓pc_s, z_add, z_sub, z_mul, z_neg, z_le, z_lt, z_eq, z_ix, z_vin, z_rem, zc_0, zc_1, zc_2, zc_3, zc_4, zc_5, zc_6, zc_7, zc_8, zc_9, zc_10, zc_12, zc_20, zc_60, zc_80, zc_108, zc_120, zc_185, zc_192, zc_1344, zc_9999, zc_FAR, zc_NEV, ite_T, ite_F, bd_s, bd2_s, rz_z, toNat_cast, mR_at, mR_ne, mu_mR, il_t, il_f, ilt_t, ilt_f, ieq_t, ieq_f, nlt_t]
    · have hb1 : bI (A (8 + 5 * i) = sAt A k ∧ sOpen A i (A 4) = 1) = 0 := if_neg h1
      rw [hb1] at hcs
      obtain ⟨D3, S3, h3⟩ := ih f (i + 1) D S (by omega) (by omega) (by omega)
      refine ⟨D3, S3, ?_⟩
      rw [fF_f (show ¬ cNx A k i from fun hc => h1 ⟨by rw [hsk]; exact hc.1, hc.2.1⟩), ← h3]
      simp (disch := omega) only [f_X5_nextLinkOf_34, f_X5_nextLinkOf_105, mW_ne, c1, hcs, ↓reduceIte, ↓nm_s, ↓lk_s, ↓pc_s, z_add, z_sub, z_mul, z_neg, z_le, z_lt, z_eq, z_ix, z_vin, z_rem, zc_0, zc_1, zc_2, zc_3, zc_4, zc_5, zc_6, zc_7, zc_8, zc_9, zc_10, zc_12, zc_20, zc_60, zc_80, zc_108, zc_120, zc_185, zc_192, zc_1344, zc_9999, zc_FAR, zc_NEV, ite_T, ite_F, bd_s, bd2_s, rz_z, toNat_cast, mR_at, mR_ne, mu_mR, il_t, il_f, ilt_t, ilt_f, ieq_t, ieq_f, nlt_t]
theorem g_nextLinkOf {p h : Int} {M : Mem} {s : Nat} {A : Int → Int} (hO : Ok p h A) (hm : Rm p h) (hR : Rw M s) (hC : Cl M s A) {k : Int} (k0 : 0 ≤ k) (k1 : k < A 2) (hk : A (108 + 7 * k + 4) ≠ -1) :
    ∃ D S, f_X5_nextLinkOf M s (ix (M 5 s k.toNat)) = some (iZ (sNext A k), mW M D S) := by
  have hsa := sAt_in hO k0 k1
  have hrd := sRdy_in hO k0 k1
  have hsk : sAt A k = A (108 + 7 * k + 4) := by unfold sAt; rw [if_neg hk]
  have hrk : sRdy A k = A 4 := by unfold sRdy; rw [if_neg hk]
  have hO2 := hO
  obtain ⟨o1, o2, o3, o4, o5, o6, o7, o8, o9, o10, o11, ol, ob, op, oc⟩ := hO2
  have hC2 := hC
  obtain ⟨c0, c1, c2, c3, c4, c5, c6, c7, cl, cp⟩ := hC2
  have hp := op k k0 k1
  unfold pcl at hp
  have hm2 := hm
  unfold Rm at hm2
  obtain ⟨p0, p1, p2, p3, p4, p5, p6⟩ := cp k k0 k1
  have hfc := eT_in hO (o := sAt A k) (t := sRdy A k) (v := A (108 + 7 * k + 1)) (by omega) (by omega) (by omega) (by omega) (by omega) (by omega)
  obtain ⟨D, S, hse⟩ := g_settling (M := M) hO hC (o := sAt A k) (t := sRdy A k) (w := A (108 + 7 * k + 1)) (by omega) (by omega) (by omega) (by omega) (by omega) (by omega)
  have hse2 : f_X6_arrivalBySettling M s (iZ (sAt A k)) (iZ (A (108 + 7 * k + 1))) (iZ (A 4)) = some (iZ (nv (sFc A k)), mW M D S) := by
    rw [← hrk]; exact hse
  have hfi : 0 ≤ sFc A k ∧ sFc A k ≤ 1000000 := hfc
  have hnv := nv_in hfi.1 hfi.2
  clear ol ob op oc cl cp hp
  by_cases hF : sFc A k = 1000000
  · refine ⟨D, S, ?_⟩
    have hn : nv (sFc A k) = 2147483647 := by unfold nv; rw [if_pos hF]
    have hx : sNext A k = -1 := by unfold sNext; rw [if_pos hF]
    rw [hx]
    simp (disch := omega) only [f_X5_nextLinkOf, p3, p4, c4, hse2, hn, ↓reduceIte, ↓nm_s, ↓lk_s, ↓pc_s, z_add, z_sub, z_mul, z_neg, z_le, z_lt, z_eq, z_ix, z_vin, z_rem, zc_0, zc_1, zc_2, zc_3, zc_4, zc_5, zc_6, zc_7, zc_8, zc_9, zc_10, zc_12, zc_20, zc_60, zc_80, zc_108, zc_120, zc_185, zc_192, zc_1344, zc_9999, zc_FAR, zc_NEV, ite_T, ite_F, bd_s, bd2_s, rz_z, toNat_cast, mR_at, mR_ne, mu_mR, il_t, il_f, ilt_t, ilt_f, ieq_t, ieq_f, nlt_t]
  · obtain ⟨D2, S2, h2⟩ := g_nextLinkOf_34 hO hm hR hC k0 k1 hk (A 1).toNat FU 0 D S (by omega) (by omega) (by unfold FU; omega)
    refine ⟨D2, S2, ?_⟩
    have hn : nv (sFc A k) ≠ 2147483647 := by unfold nv; rw [if_neg hF]; omega
    have hx : sNext A k = fF (cNx A k) (A 1).toNat 0 := by unfold sNext; rw [if_neg hF]
    rw [hx, ← h2]
    simp (disch := omega) only [f_X5_nextLinkOf, p3, p4, c4, hse2, ↓reduceIte, ↓nm_s, ↓lk_s, ↓pc_s, z_add, z_sub, z_mul, z_neg, z_le, z_lt, z_eq, z_ix, z_vin, z_rem, zc_0, zc_1, zc_2, zc_3, zc_4, zc_5, zc_6, zc_7, zc_8, zc_9, zc_10, zc_12, zc_20, zc_60, zc_80, zc_108, zc_120, zc_185, zc_192, zc_1344, zc_9999, zc_FAR, zc_NEV, ite_T, ite_F, bd_s, bd2_s, rz_z, toNat_cast, mR_at, mR_ne, mu_mR, il_t, il_f, ilt_t, ilt_f, ieq_t, ieq_f, nlt_t]
