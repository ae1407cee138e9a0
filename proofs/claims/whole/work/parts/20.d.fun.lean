theorem rz_0 (A : Int → Int) : rz A 0 = iZ (A 0) := rfl
theorem rz_1 (A : Int → Int) : rz A 1 = iZ (A 1) := rfl
theorem rz_2 (A : Int → Int) : rz A 2 = iZ (A 2) := rfl
theorem rz_3 (A : Int → Int) : rz A 3 = iZ (A 3) := rfl
theorem rz_4 (A : Int → Int) : rz A 4 = iZ (A 4) := rfl
theorem rz_5 (A : Int → Int) : rz A 5 = iZ (A 5) := rfl
theorem rz_6 (A : Int → Int) : rz A 6 = iZ (A 6) := rfl
theorem rz_7 (A : Int → Int) : rz A 7 = iZ (A 7) := rfl
/-! The reference's sums. -/
theorem g_X8_load_4 {p h : Int} {M : Mem} {A : Int → Int} (hO : Ok p h A) (hm : Rm p h) (hA : M 21 0 = rz A) {l : Int} (hl : 0 ≤ l) (hl2 : l < 20) :
    ∀ (n f : Nat) (i acc : Int), 0 ≤ i → i + n = A 2 → n < f → f_X8_load_4 M f (iZ l) (iZ acc) (iZ i) = some (iZ (acc + sF (fun k => if A (108 + 7 * k + 5) = l then A (108 + 7 * k + 2) else 0) n i)) := by
  obtain ⟨o1, o2, o3, o4, o5, o6, o7, o8, o9, o10, o11, ol, ob, op, oc⟩ := id hO
  unfold Rm at hm
  intro n
  induction n with
  | zero =>
    intro f i acc h0 hi hf
    obtain ⟨f, rfl⟩ : ∃ g, f = g + 1 := ⟨f - 1, by omega⟩
    simp (disch := omega) only [f_X8_load_4, hA, rz_0, rz_1, rz_2, rz_4, ↓reduceIte, ↓nm_s, ↓lk_s, ↓pc_s, z_add, z_sub, z_mul, z_neg, z_le, z_lt, z_eq, z_ix, z_vin, z_rem, zc_0, zc_1, zc_2, zc_3, zc_4, zc_5, zc_6, zc_7, zc_8, zc_9, zc_10, zc_12, zc_20, zc_60, zc_80, zc_108, zc_120, zc_185, zc_192, zc_1344, zc_9999, zc_FAR, zc_NEV, ite_T, ite_F, bd_s, bd2_s, rz_z, toNat_cast, mR_at, mR_ne, mu_mR, il_t, il_f, ilt_t, ilt_f, ieq_t, ieq_f, nlt_t]
    simp [sF]
  | succ n ih =>
    intro f i acc h0 hi hf
    obtain ⟨f, rfl⟩ : ∃ g, f = g + 1 := ⟨f - 1, by omega⟩
    have hp := op i h0 (by omega)
    unfold pcl at hp
    simp (disch := omega) only [f_X8_load_4, f_X8_load_72, f_X8_load_49, f_X8_load_48, hA, rz_0, rz_1, rz_2, rz_4, ↓reduceIte, ↓nm_s, ↓lk_s, ↓pc_s, z_add, z_sub, z_mul, z_neg, z_le, z_lt, z_eq, z_ix, z_vin, z_rem, zc_0, zc_1, zc_2, zc_3, zc_4, zc_5, zc_6, zc_7, zc_8, zc_9, zc_10, zc_12, zc_20, zc_60, zc_80, zc_108, zc_120, zc_185, zc_192, zc_1344, zc_9999, zc_FAR, zc_NEV, ite_T, ite_F, bd_s, bd2_s, rz_z, toNat_cast, mR_at, mR_ne, mu_mR, il_t, il_f, ilt_t, ilt_f, ieq_t, ieq_f, nlt_t]
    (try simp (disch := omega) only [ih]); rw [sF]
    first | exact congrArg (fun x => some (iZ x)) (by omega) | (split <;> exact congrArg (fun x => some (iZ x)) (by omega)) | (split <;> split <;> exact congrArg (fun x => some (iZ x)) (by omega)) | (split <;> (try split) <;> (try split) <;> (try split) <;> exact congrArg (fun x => some (iZ x)) (by omega))
theorem g_X8_load {p h : Int} {M : Mem} {A : Int → Int} (hO : Ok p h A) (hm : Rm p h) (hA : M 21 0 = rz A) {l : Int} (hl : 0 ≤ l) (hl2 : l < 20) : f_X8_load M (iZ l) = some (iZ (sLoad A l)) := by
  obtain ⟨o1, o2, o3, o4, o5, o6, o7, o8, o9, o10, o11, ol, ob, op, oc⟩ := id hO
  have := g_X8_load_4 hO hm hA hl hl2 (A 2).toNat FU 0 0 (by omega) (by omega) (by unfold FU; omega)
  unfold f_X8_load sLoad
  simp only [zc_0]
  rw [this, Int.zero_add]
theorem g_X8_blocked_4 {p h : Int} {M : Mem} {A : Int → Int} (hO : Ok p h A) (hm : Rm p h) (hA : M 21 0 = rz A) :
    ∀ (n f : Nat) (i acc : Int), 0 ≤ i → i + n = A 1 → n < f → f_X8_blocked_4 M f (iZ acc) (iZ i) = some (iZ (acc + sF (fun k => A (8 + 5 * k + 4)) n i)) := by
  obtain ⟨o1, o2, o3, o4, o5, o6, o7, o8, o9, o10, o11, ol, ob, op, oc⟩ := id hO
  unfold Rm at hm
  intro n
  induction n with
  | zero =>
    intro f i acc h0 hi hf
    obtain ⟨f, rfl⟩ : ∃ g, f = g + 1 := ⟨f - 1, by omega⟩
    simp (disch := omega) only [f_X8_blocked_4, hA, rz_0, rz_1, rz_2, rz_4, ↓reduceIte, ↓nm_s, ↓lk_s, ↓pc_s, z_add, z_sub, z_mul, z_neg, z_le, z_lt, z_eq, z_ix, z_vin, z_rem, zc_0, zc_1, zc_2, zc_3, zc_4, zc_5, zc_6, zc_7, zc_8, zc_9, zc_10, zc_12, zc_20, zc_60, zc_80, zc_108, zc_120, zc_185, zc_192, zc_1344, zc_9999, zc_FAR, zc_NEV, ite_T, ite_F, bd_s, bd2_s, rz_z, toNat_cast, mR_at, mR_ne, mu_mR, il_t, il_f, ilt_t, ilt_f, ieq_t, ieq_f, nlt_t]
    simp [sF]
  | succ n ih =>
    intro f i acc h0 hi hf
    obtain ⟨f, rfl⟩ : ∃ g, f = g + 1 := ⟨f - 1, by omega⟩
    have hk := ol i h0 (by omega)
    unfold lnk at hk
    simp (disch := omega) only [f_X8_blocked_4, hA, rz_0, rz_1, rz_2, rz_4, ↓reduceIte, ↓nm_s, ↓lk_s, ↓pc_s, z_add, z_sub, z_mul, z_neg, z_le, z_lt, z_eq, z_ix, z_vin, z_rem, zc_0, zc_1, zc_2, zc_3, zc_4, zc_5, zc_6, zc_7, zc_8, zc_9, zc_10, zc_12, zc_20, zc_60, zc_80, zc_108, zc_120, zc_185, zc_192, zc_1344, zc_9999, zc_FAR, zc_NEV, ite_T, ite_F, bd_s, bd2_s, rz_z, toNat_cast, mR_at, mR_ne, mu_mR, il_t, il_f, ilt_t, ilt_f, ieq_t, ieq_f, nlt_t]
    (try simp (disch := omega) only [ih]); rw [sF]
    first | exact congrArg (fun x => some (iZ x)) (by omega) | (split <;> exact congrArg (fun x => some (iZ x)) (by omega)) | (split <;> split <;> exact congrArg (fun x => some (iZ x)) (by omega)) | (split <;> (try split) <;> (try split) <;> (try split) <;> exact congrArg (fun x => some (iZ x)) (by omega))
theorem g_X8_blocked {p h : Int} {M : Mem} {A : Int → Int} (hO : Ok p h A) (hm : Rm p h) (hA : M 21 0 = rz A) : f_X8_blocked M  = some (iZ (sBlk A)) := by
  obtain ⟨o1, o2, o3, o4, o5, o6, o7, o8, o9, o10, o11, ol, ob, op, oc⟩ := id hO
  have := g_X8_blocked_4 hO hm hA  (A 1).toNat FU 0 0 (by omega) (by omega) (by unfold FU; omega)
  unfold f_X8_blocked sBlk
  simp only [zc_0]
  rw [this, Int.zero_add]
theorem g_X8_degree_23 {p h : Int} {M : Mem} {A : Int → Int} (hO : Ok p h A) (hm : Rm p h) (hA : M 21 0 = rz A) {v : Int} (hv : 0 ≤ v) (hv2 : v < 9) :
    ∀ (n f : Nat) (i acc : Int), 0 ≤ i → i + n = A 1 → n < f → f_X8_degree_23 f M (iZ v) (iZ acc) (iZ i) = some (iZ (acc + sF (fun k => if A (8 + 5 * k) = v ∨ A (8 + 5 * k + 1) = v then 1 else 0) n i), M) := by
  obtain ⟨o1, o2, o3, o4, o5, o6, o7, o8, o9, o10, o11, ol, ob, op, oc⟩ := id hO
  unfold Rm at hm
  intro n
  induction n with
  | zero =>
    intro f i acc h0 hi hf
    obtain ⟨f, rfl⟩ : ∃ g, f = g + 1 := ⟨f - 1, by omega⟩
    simp (disch := omega) only [f_X8_degree_23, hA, rz_0, rz_1, rz_2, rz_4, ↓reduceIte, ↓nm_s, ↓lk_s, ↓pc_s, z_add, z_sub, z_mul, z_neg, z_le, z_lt, z_eq, z_ix, z_vin, z_rem, zc_0, zc_1, zc_2, zc_3, zc_4, zc_5, zc_6, zc_7, zc_8, zc_9, zc_10, zc_12, zc_20, zc_60, zc_80, zc_108, zc_120, zc_185, zc_192, zc_1344, zc_9999, zc_FAR, zc_NEV, ite_T, ite_F, bd_s, bd2_s, rz_z, toNat_cast, mR_at, mR_ne, mu_mR, il_t, il_f, ilt_t, ilt_f, ieq_t, ieq_f, nlt_t]
    simp [sF]
  | succ n ih =>
    intro f i acc h0 hi hf
    obtain ⟨f, rfl⟩ : ∃ g, f = g + 1 := ⟨f - 1, by omega⟩
    have hk := ol i h0 (by omega)
    unfold lnk at hk
    simp (disch := omega) only [f_X8_degree_23, f_X8_degree_67, f_X8_degree_62, hA, rz_0, rz_1, rz_2, rz_4, ↓reduceIte, ↓nm_s, ↓lk_s, ↓pc_s, z_add, z_sub, z_mul, z_neg, z_le, z_lt, z_eq, z_ix, z_vin, z_rem, zc_0, zc_1, zc_2, zc_3, zc_4, zc_5, zc_6, zc_7, zc_8, zc_9, zc_10, zc_12, zc_20, zc_60, zc_80, zc_108, zc_120, zc_185, zc_192, zc_1344, zc_9999, zc_FAR, zc_NEV, ite_T, ite_F, bd_s, bd2_s, rz_z, toNat_cast, mR_at, mR_ne, mu_mR, il_t, il_f, ilt_t, ilt_f, ieq_t, ieq_f, nlt_t]
    (try simp (disch := omega) only [ih]); rw [sF]
    first | exact congrArg (fun x => some (iZ x, M)) (by omega) | (split <;> exact congrArg (fun x => some (iZ x, M)) (by omega)) | (split <;> split <;> exact congrArg (fun x => some (iZ x, M)) (by omega)) | (split <;> (try split) <;> (try split) <;> (try split) <;> exact congrArg (fun x => some (iZ x, M)) (by omega))
theorem g_X8_degree_s {p h : Int} {M : Mem} {A : Int → Int} (hO : Ok p h A) (hm : Rm p h) (hA : M 21 0 = rz A) {v : Int} (hv : 0 ≤ v) (hv2 : v < 9) : f_X8_degree_23 FU M (iZ v) (iZ 0) (iZ 0) = some (iZ (sDeg A v), M) := by
  obtain ⟨o1, o2, o3, o4, o5, o6, o7, o8, o9, o10, o11, ol, ob, op, oc⟩ := id hO
  have := g_X8_degree_23 hO hm hA hv hv2 (A 1).toNat FU 0 0 (by omega) (by omega) (by unfold FU; omega)
  unfold sDeg
  rw [this, Int.zero_add]
theorem g_X8_waitingIn_23 {p h : Int} {M : Mem} {A : Int → Int} (hO : Ok p h A) (hm : Rm p h) (hA : M 21 0 = rz A) {v : Int} (hv : 0 ≤ v) (hv2 : v < 9) :
    ∀ (n f : Nat) (i acc : Int), 0 ≤ i → i + n = A 2 → n < f → f_X8_waitingIn_23 f M (iZ v) (iZ acc) (iZ i) = some (iZ (acc + sF (fun k => if A (108 + 7 * k + 4) = v then 1 else 0) n i), M) := by
  obtain ⟨o1, o2, o3, o4, o5, o6, o7, o8, o9, o10, o11, ol, ob, op, oc⟩ := id hO
  unfold Rm at hm
  intro n
  induction n with
  | zero =>
    intro f i acc h0 hi hf
    obtain ⟨f, rfl⟩ : ∃ g, f = g + 1 := ⟨f - 1, by omega⟩
    simp (disch := omega) only [f_X8_waitingIn_23, hA, rz_0, rz_1, rz_2, rz_4, ↓reduceIte, ↓nm_s, ↓lk_s, ↓pc_s, z_add, z_sub, z_mul, z_neg, z_le, z_lt, z_eq, z_ix, z_vin, z_rem, zc_0, zc_1, zc_2, zc_3, zc_4, zc_5, zc_6, zc_7, zc_8, zc_9, zc_10, zc_12, zc_20, zc_60, zc_80, zc_108, zc_120, zc_185, zc_192, zc_1344, zc_9999, zc_FAR, zc_NEV, ite_T, ite_F, bd_s, bd2_s, rz_z, toNat_cast, mR_at, mR_ne, mu_mR, il_t, il_f, ilt_t, ilt_f, ieq_t, ieq_f, nlt_t]
    simp [sF]
  | succ n ih =>
    intro f i acc h0 hi hf
    obtain ⟨f, rfl⟩ : ∃ g, f = g + 1 := ⟨f - 1, by omega⟩
    have hp := op i h0 (by omega)
    unfold pcl at hp
    simp (disch := omega) only [f_X8_waitingIn_23, f_X8_waitingIn_54, hA, rz_0, rz_1, rz_2, rz_4, ↓reduceIte, ↓nm_s, ↓lk_s, ↓pc_s, z_add, z_sub, z_mul, z_neg, z_le, z_lt, z_eq, z_ix, z_vin, z_rem, zc_0, zc_1, zc_2, zc_3, zc_4, zc_5, zc_6, zc_7, zc_8, zc_9, zc_10, zc_12, zc_20, zc_60, zc_80, zc_108, zc_120, zc_185, zc_192, zc_1344, zc_9999, zc_FAR, zc_NEV, ite_T, ite_F, bd_s, bd2_s, rz_z, toNat_cast, mR_at, mR_ne, mu_mR, il_t, il_f, ilt_t, ilt_f, ieq_t, ieq_f, nlt_t]
    (try simp (disch := omega) only [ih]); rw [sF]
    first | exact congrArg (fun x => some (iZ x, M)) (by omega) | (split <;> exact congrArg (fun x => some (iZ x, M)) (by omega)) | (split <;> split <;> exact congrArg (fun x => some (iZ x, M)) (by omega)) | (split <;> (try split) <;> (try split) <;> (try split) <;> exact congrArg (fun x => some (iZ x, M)) (by omega))
theorem g_X8_waitingIn_s {p h : Int} {M : Mem} {A : Int → Int} (hO : Ok p h A) (hm : Rm p h) (hA : M 21 0 = rz A) {v : Int} (hv : 0 ≤ v) (hv2 : v < 9) : f_X8_waitingIn_23 FU M (iZ v) (iZ 0) (iZ 0) = some (iZ (sWait A v), M) := by
  obtain ⟨o1, o2, o3, o4, o5, o6, o7, o8, o9, o10, o11, ol, ob, op, oc⟩ := id hO
  have := g_X8_waitingIn_23 hO hm hA hv hv2 (A 2).toNat FU 0 0 (by omega) (by omega) (by unfold FU; omega)
  unfold sWait
  rw [this, Int.zero_add]
theorem g_X8_arrivalsWithin_27 {p h : Int} {M : Mem} {A : Int → Int} (hO : Ok p h A) (hm : Rm p h) (hA : M 21 0 = rz A) {v : Int} (hv : 1 ≤ v) (hv2 : v ≤ 120) :
    ∀ (n f : Nat) (i acc : Int), 0 ≤ i → i + n = A 2 → n < f → f_X8_arrivalsWithin_27 f M (iZ v) (iZ acc) (iZ i) = some (iZ (acc + sF (fun k => if A (108 + 7 * k + 4) = -1 ∧ A (108 + 7 * k + 6) ≤ A 4 + v then 1 else 0) n i), M) := by
  obtain ⟨o1, o2, o3, o4, o5, o6, o7, o8, o9, o10, o11, ol, ob, op, oc⟩ := id hO
  unfold Rm at hm
  intro n
  induction n with
  | zero =>
    intro f i acc h0 hi hf
    obtain ⟨f, rfl⟩ : ∃ g, f = g + 1 := ⟨f - 1, by omega⟩
    simp (disch := omega) only [f_X8_arrivalsWithin_27, hA, rz_0, rz_1, rz_2, rz_4, ↓reduceIte, ↓nm_s, ↓lk_s, ↓pc_s, z_add, z_sub, z_mul, z_neg, z_le, z_lt, z_eq, z_ix, z_vin, z_rem, zc_0, zc_1, zc_2, zc_3, zc_4, zc_5, zc_6, zc_7, zc_8, zc_9, zc_10, zc_12, zc_20, zc_60, zc_80, zc_108, zc_120, zc_185, zc_192, zc_1344, zc_9999, zc_FAR, zc_NEV, ite_T, ite_F, bd_s, bd2_s, rz_z, toNat_cast, mR_at, mR_ne, mu_mR, il_t, il_f, ilt_t, ilt_f, ieq_t, ieq_f, nlt_t]
    simp [sF]
  | succ n ih =>
    intro f i acc h0 hi hf
    obtain ⟨f, rfl⟩ : ∃ g, f = g + 1 := ⟨f - 1, by omega⟩
    have hp := op i h0 (by omega)
    unfold pcl at hp
    have h4 : -2147483648 ≤ A 4 + v := by omega
    simp (disch := omega) only [f_X8_arrivalsWithin_27, f_X8_arrivalsWithin_81, f_X8_arrivalsWithin_80, hA, rz_0, rz_1, rz_2, rz_4, ↓reduceIte, ↓nm_s, ↓lk_s, ↓pc_s, z_add, z_sub, z_mul, z_neg, z_le, z_lt, z_eq, z_ix, z_vin, z_rem, zc_0, zc_1, zc_2, zc_3, zc_4, zc_5, zc_6, zc_7, zc_8, zc_9, zc_10, zc_12, zc_20, zc_60, zc_80, zc_108, zc_120, zc_185, zc_192, zc_1344, zc_9999, zc_FAR, zc_NEV, ite_T, ite_F, bd_s, bd2_s, rz_z, toNat_cast, mR_at, mR_ne, mu_mR, il_t, il_f, ilt_t, ilt_f, ieq_t, ieq_f, nlt_t]
    (try simp (disch := omega) only [ih]); rw [sF]
    first | exact congrArg (fun x => some (iZ x, M)) (by omega) | (split <;> exact congrArg (fun x => some (iZ x, M)) (by omega)) | (split <;> split <;> exact congrArg (fun x => some (iZ x, M)) (by omega)) | (split <;> (try split) <;> (try split) <;> (try split) <;> exact congrArg (fun x => some (iZ x, M)) (by omega))
theorem g_X8_arrivalsWithin_s {p h : Int} {M : Mem} {A : Int → Int} (hO : Ok p h A) (hm : Rm p h) (hA : M 21 0 = rz A) {v : Int} (hv : 1 ≤ v) (hv2 : v ≤ 120) : f_X8_arrivalsWithin_27 FU M (iZ v) (iZ 0) (iZ 0) = some (iZ (sArr A v), M) := by
  obtain ⟨o1, o2, o3, o4, o5, o6, o7, o8, o9, o10, o11, ol, ob, op, oc⟩ := id hO
  have := g_X8_arrivalsWithin_27 hO hm hA hv hv2 (A 2).toNat FU 0 0 (by omega) (by omega) (by unfold FU; omega)
  unfold sArr
  rw [this, Int.zero_add]
