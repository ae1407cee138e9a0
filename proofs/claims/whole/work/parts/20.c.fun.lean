/-! The class's sums. -/
def sBlk (A : Int → Int) : Int := sF (fun k => A (8 + 5 * k + 4)) (A 1).toNat 0
def sDeg (A : Int → Int) (v : Int) : Int := sF (fun k => if A (8 + 5 * k) = v ∨ A (8 + 5 * k + 1) = v then 1 else 0) (A 1).toNat 0
def sWait (A : Int → Int) (v : Int) : Int := sF (fun k => if A (108 + 7 * k + 4) = v then 1 else 0) (A 2).toNat 0
def sArr (A : Int → Int) (v : Int) : Int := sF (fun k => if A (108 + 7 * k + 4) = -1 ∧ A (108 + 7 * k + 6) ≤ A 4 + v then 1 else 0) (A 2).toNat 0
def sStm (A : Int → Int) : Int := sF (fun k => A (108 + 7 * k + 3)) (A 2).toNat 0
theorem g_weightOn_4 {p h : Int} {M : Mem} {s : Nat} {A : Int → Int} (hO : Ok p h A) (hm : Rm p h) (hs : s ≤ 10) (hR : Rw M s) (hC : Cl M s A) {l : Int} (hl : -1 ≤ l) (hl2 : l < 20) :
    ∀ (n f : Nat) (i acc : Int), 0 ≤ i → i + n = A 2 → n < f → f_X5_weightOn_4 M f s (iZ l) (iZ acc) (iZ i) = some (iZ (acc + sF (fun k => if A (108 + 7 * k + 5) = l then A (108 + 7 * k + 2) else 0) n i)) := by
  obtain ⟨o1, o2, o3, o4, o5, o6, o7, o8, o9, o10, o11, ol, ob, op, oc⟩ := id hO
  obtain ⟨c0, c1, c2, c3, c4, c5, c6, c7, cl, cp⟩ := id hC
  unfold Rm at hm
  intro n
  induction n with
  | zero =>
    intro f i acc h0 hi hf
    obtain ⟨f, rfl⟩ : ∃ g, f = g + 1 := ⟨f - 1, by omega⟩
    simp (disch := omega) only [f_X5_weightOn_4, c2, ↓reduceIte, ↓nm_s, ↓lk_s, ↓pc_s, z_add, z_sub, z_mul, z_neg, z_le, z_lt, z_eq, z_ix, z_vin, z_rem, zc_0, zc_1, zc_2, zc_3, zc_4, zc_5, zc_6, zc_7, zc_8, zc_9, zc_10, zc_12, zc_20, zc_60, zc_80, zc_108, zc_120, zc_185, zc_192, zc_1344, zc_9999, zc_FAR, zc_NEV, ite_T, ite_F, bd_s, bd2_s, rz_z, toNat_cast, mR_at, mR_ne, mu_mR, il_t, il_f, ilt_t, ilt_f, ieq_t, ieq_f, nlt_t]
    simp [sF]
  | succ n ih =>
    intro f i acc h0 hi hf
    obtain ⟨f, rfl⟩ : ∃ g, f = g + 1 := ⟨f - 1, by omega⟩
    have hp := op i h0 (by omega)
    unfold pcl at hp
    have hr := hR.1 i h0 (by omega)
    obtain ⟨p0, p1, p2, p3, p4, p5, p6⟩ := cp i h0 (by omega)
    simp (disch := omega) only [f_X5_weightOn_4, f_X5_weightOn_37, c2, p1, p5, ↓reduceIte, ↓nm_s, ↓lk_s, ↓pc_s, z_add, z_sub, z_mul, z_neg, z_le, z_lt, z_eq, z_ix, z_vin, z_rem, zc_0, zc_1, zc_2, zc_3, zc_4, zc_5, zc_6, zc_7, zc_8, zc_9, zc_10, zc_12, zc_20, zc_60, zc_80, zc_108, zc_120, zc_185, zc_192, zc_1344, zc_9999, zc_FAR, zc_NEV, ite_T, ite_F, bd_s, bd2_s, rz_z, toNat_cast, mR_at, mR_ne, mu_mR, il_t, il_f, ilt_t, ilt_f, ieq_t, ieq_f, nlt_t]
    (try simp (disch := omega) only [ih]); rw [sF]
    first | exact congrArg (fun x => some (iZ x)) (by omega) | (split <;> exact congrArg (fun x => some (iZ x)) (by omega)) | (split <;> split <;> exact congrArg (fun x => some (iZ x)) (by omega)) | (split <;> (try split) <;> (try split) <;> (try split) <;> exact congrArg (fun x => some (iZ x)) (by omega))
theorem g_weightOn {p h : Int} {M : Mem} {s : Nat} {A : Int → Int} (hO : Ok p h A) (hm : Rm p h) (hs : s ≤ 10) (hR : Rw M s) (hC : Cl M s A) {l : Int} (hl : -1 ≤ l) (hl2 : l < 20) : f_X5_weightOn M s (iZ l) = some (iZ (sLoad A l)) := by
  obtain ⟨o1, o2, o3, o4, o5, o6, o7, o8, o9, o10, o11, ol, ob, op, oc⟩ := id hO
  have := g_weightOn_4 hO hm hs hR hC hl hl2 (A 2).toNat FU 0 0 (by omega) (by omega) (by unfold FU; omega)
  unfold f_X5_weightOn sLoad
  simp only [zc_0]
  rw [this, Int.zero_add]
theorem g_blockedLinks_4 {p h : Int} {M : Mem} {s : Nat} {A : Int → Int} (hO : Ok p h A) (hm : Rm p h) (hs : s ≤ 10) (hR : Rw M s) (hC : Cl M s A) :
    ∀ (n f : Nat) (i acc : Int), 0 ≤ i → i + n = A 1 → n < f → f_X2_blockedLinks_4 M f s (iZ acc) (iZ i) = some (iZ (acc + sF (fun k => A (8 + 5 * k + 4)) n i)) := by
  obtain ⟨o1, o2, o3, o4, o5, o6, o7, o8, o9, o10, o11, ol, ob, op, oc⟩ := id hO
  obtain ⟨c0, c1, c2, c3, c4, c5, c6, c7, cl, cp⟩ := id hC
  unfold Rm at hm
  intro n
  induction n with
  | zero =>
    intro f i acc h0 hi hf
    obtain ⟨f, rfl⟩ : ∃ g, f = g + 1 := ⟨f - 1, by omega⟩
    simp (disch := omega) only [f_X2_blockedLinks_4, c1, ↓reduceIte, ↓nm_s, ↓lk_s, ↓pc_s, z_add, z_sub, z_mul, z_neg, z_le, z_lt, z_eq, z_ix, z_vin, z_rem, zc_0, zc_1, zc_2, zc_3, zc_4, zc_5, zc_6, zc_7, zc_8, zc_9, zc_10, zc_12, zc_20, zc_60, zc_80, zc_108, zc_120, zc_185, zc_192, zc_1344, zc_9999, zc_FAR, zc_NEV, ite_T, ite_F, bd_s, bd2_s, rz_z, toNat_cast, mR_at, mR_ne, mu_mR, il_t, il_f, ilt_t, ilt_f, ieq_t, ieq_f, nlt_t]
    simp [sF]
  | succ n ih =>
    intro f i acc h0 hi hf
    obtain ⟨f, rfl⟩ : ∃ g, f = g + 1 := ⟨f - 1, by omega⟩
    have hk := ol i h0 (by omega)
    unfold lnk at hk
    obtain ⟨l0, l1, l2, l3, l4⟩ := cl i h0 (by omega)
    simp (disch := omega) only [f_X2_blockedLinks_4, f_X2_blockedLinks_27, c1, l4, ↓reduceIte, ↓nm_s, ↓lk_s, ↓pc_s, z_add, z_sub, z_mul, z_neg, z_le, z_lt, z_eq, z_ix, z_vin, z_rem, zc_0, zc_1, zc_2, zc_3, zc_4, zc_5, zc_6, zc_7, zc_8, zc_9, zc_10, zc_12, zc_20, zc_60, zc_80, zc_108, zc_120, zc_185, zc_192, zc_1344, zc_9999, zc_FAR, zc_NEV, ite_T, ite_F, bd_s, bd2_s, rz_z, toNat_cast, mR_at, mR_ne, mu_mR, il_t, il_f, ilt_t, ilt_f, ieq_t, ieq_f, nlt_t]
    (try simp (disch := omega) only [ih]); rw [sF]
    first | exact congrArg (fun x => some (iZ x)) (by omega) | (split <;> exact congrArg (fun x => some (iZ x)) (by omega)) | (split <;> split <;> exact congrArg (fun x => some (iZ x)) (by omega)) | (split <;> (try split) <;> (try split) <;> (try split) <;> exact congrArg (fun x => some (iZ x)) (by omega))
theorem g_blockedLinks {p h : Int} {M : Mem} {s : Nat} {A : Int → Int} (hO : Ok p h A) (hm : Rm p h) (hs : s ≤ 10) (hR : Rw M s) (hC : Cl M s A) : f_X2_blockedLinks M s  = some (iZ (sBlk A)) := by
  obtain ⟨o1, o2, o3, o4, o5, o6, o7, o8, o9, o10, o11, ol, ob, op, oc⟩ := id hO
  have := g_blockedLinks_4 hO hm hs hR hC  (A 1).toNat FU 0 0 (by omega) (by omega) (by unfold FU; omega)
  unfold f_X2_blockedLinks sBlk
  simp only [zc_0]
  rw [this, Int.zero_add]
theorem g_linksAt_4 {p h : Int} {M : Mem} {s : Nat} {A : Int → Int} (hO : Ok p h A) (hm : Rm p h) (hs : s ≤ 10) (hR : Rw M s) (hC : Cl M s A) {v : Int} (hv : 0 ≤ v) (hv2 : v < 9) :
    ∀ (n f : Nat) (i acc : Int), 0 ≤ i → i + n = A 1 → n < f → f_X2_linksAt_4 M f s (iZ v) (iZ acc) (iZ i) = some (iZ (acc + sF (fun k => if A (8 + 5 * k) = v ∨ A (8 + 5 * k + 1) = v then 1 else 0) n i)) := by
  obtain ⟨o1, o2, o3, o4, o5, o6, o7, o8, o9, o10, o11, ol, ob, op, oc⟩ := id hO
  obtain ⟨c0, c1, c2, c3, c4, c5, c6, c7, cl, cp⟩ := id hC
  unfold Rm at hm
  intro n
  induction n with
  | zero =>
    intro f i acc h0 hi hf
    obtain ⟨f, rfl⟩ : ∃ g, f = g + 1 := ⟨f - 1, by omega⟩
    simp (disch := omega) only [f_X2_linksAt_4, c1, ↓reduceIte, ↓nm_s, ↓lk_s, ↓pc_s, z_add, z_sub, z_mul, z_neg, z_le, z_lt, z_eq, z_ix, z_vin, z_rem, zc_0, zc_1, zc_2, zc_3, zc_4, zc_5, zc_6, zc_7, zc_8, zc_9, zc_10, zc_12, zc_20, zc_60, zc_80, zc_108, zc_120, zc_185, zc_192, zc_1344, zc_9999, zc_FAR, zc_NEV, ite_T, ite_F, bd_s, bd2_s, rz_z, toNat_cast, mR_at, mR_ne, mu_mR, il_t, il_f, ilt_t, ilt_f, ieq_t, ieq_f, nlt_t]
    simp [sF]
  | succ n ih =>
    intro f i acc h0 hi hf
    obtain ⟨f, rfl⟩ : ∃ g, f = g + 1 := ⟨f - 1, by omega⟩
    have hk := ol i h0 (by omega)
    unfold lnk at hk
    obtain ⟨l0, l1, l2, l3, l4⟩ := cl i h0 (by omega)
    simp (disch := omega) only [f_X2_linksAt_4, f_X2_linksAt_41, f_X2_linksAt_38, c1, l0, l1, ↓reduceIte, ↓nm_s, ↓lk_s, ↓pc_s, z_add, z_sub, z_mul, z_neg, z_le, z_lt, z_eq, z_ix, z_vin, z_rem, zc_0, zc_1, zc_2, zc_3, zc_4, zc_5, zc_6, zc_7, zc_8, zc_9, zc_10, zc_12, zc_20, zc_60, zc_80, zc_108, zc_120, zc_185, zc_192, zc_1344, zc_9999, zc_FAR, zc_NEV, ite_T, ite_F, bd_s, bd2_s, rz_z, toNat_cast, mR_at, mR_ne, mu_mR, il_t, il_f, ilt_t, ilt_f, ieq_t, ieq_f, nlt_t]
    (try simp (disch := omega) only [ih]); rw [sF]
    first | exact congrArg (fun x => some (iZ x)) (by omega) | (split <;> exact congrArg (fun x => some (iZ x)) (by omega)) | (split <;> split <;> exact congrArg (fun x => some (iZ x)) (by omega)) | (split <;> (try split) <;> (try split) <;> (try split) <;> exact congrArg (fun x => some (iZ x)) (by omega))
theorem g_linksAt {p h : Int} {M : Mem} {s : Nat} {A : Int → Int} (hO : Ok p h A) (hm : Rm p h) (hs : s ≤ 10) (hR : Rw M s) (hC : Cl M s A) {v : Int} (hv : 0 ≤ v) (hv2 : v < 9) : f_X2_linksAt M s (iZ v) = some (iZ (sDeg A v)) := by
  obtain ⟨o1, o2, o3, o4, o5, o6, o7, o8, o9, o10, o11, ol, ob, op, oc⟩ := id hO
  have := g_linksAt_4 hO hm hs hR hC hv hv2 (A 1).toNat FU 0 0 (by omega) (by omega) (by unfold FU; omega)
  unfold f_X2_linksAt sDeg
  simp only [zc_0]
  rw [this, Int.zero_add]
theorem g_parcelsWaitingIn_4 {p h : Int} {M : Mem} {s : Nat} {A : Int → Int} (hO : Ok p h A) (hm : Rm p h) (hs : s ≤ 10) (hR : Rw M s) (hC : Cl M s A) {v : Int} (hv : 0 ≤ v) (hv2 : v < 9) :
    ∀ (n f : Nat) (i acc : Int), 0 ≤ i → i + n = A 2 → n < f → f_X5_parcelsWaitingIn_4 M f s (iZ v) (iZ acc) (iZ i) = some (iZ (acc + sF (fun k => if A (108 + 7 * k + 4) = v then 1 else 0) n i)) := by
  obtain ⟨o1, o2, o3, o4, o5, o6, o7, o8, o9, o10, o11, ol, ob, op, oc⟩ := id hO
  obtain ⟨c0, c1, c2, c3, c4, c5, c6, c7, cl, cp⟩ := id hC
  unfold Rm at hm
  intro n
  induction n with
  | zero =>
    intro f i acc h0 hi hf
    obtain ⟨f, rfl⟩ : ∃ g, f = g + 1 := ⟨f - 1, by omega⟩
    simp (disch := omega) only [f_X5_parcelsWaitingIn_4, c2, ↓reduceIte, ↓nm_s, ↓lk_s, ↓pc_s, z_add, z_sub, z_mul, z_neg, z_le, z_lt, z_eq, z_ix, z_vin, z_rem, zc_0, zc_1, zc_2, zc_3, zc_4, zc_5, zc_6, zc_7, zc_8, zc_9, zc_10, zc_12, zc_20, zc_60, zc_80, zc_108, zc_120, zc_185, zc_192, zc_1344, zc_9999, zc_FAR, zc_NEV, ite_T, ite_F, bd_s, bd2_s, rz_z, toNat_cast, mR_at, mR_ne, mu_mR, il_t, il_f, ilt_t, ilt_f, ieq_t, ieq_f, nlt_t]
    simp [sF]
  | succ n ih =>
    intro f i acc h0 hi hf
    obtain ⟨f, rfl⟩ : ∃ g, f = g + 1 := ⟨f - 1, by omega⟩
    have hp := op i h0 (by omega)
    unfold pcl at hp
    have hr := hR.1 i h0 (by omega)
    obtain ⟨p0, p1, p2, p3, p4, p5, p6⟩ := cp i h0 (by omega)
    have hsa := sAt_in hO h0 (by omega : i < A 2)
    have hsw : sAt A i = A (108 + 7 * i + 4) ∨ A (108 + 7 * i + 4) = -1 := by unfold sAt; split <;> omega
    simp (disch := omega) only [f_X5_parcelsWaitingIn_4, f_X5_parcelsWaitingIn_40, f_X3_isUnderWay, c2, p4, p5, ↓reduceIte, ↓nm_s, ↓lk_s, ↓pc_s, z_add, z_sub, z_mul, z_neg, z_le, z_lt, z_eq, z_ix, z_vin, z_rem, zc_0, zc_1, zc_2, zc_3, zc_4, zc_5, zc_6, zc_7, zc_8, zc_9, zc_10, zc_12, zc_20, zc_60, zc_80, zc_108, zc_120, zc_185, zc_192, zc_1344, zc_9999, zc_FAR, zc_NEV, ite_T, ite_F, bd_s, bd2_s, rz_z, toNat_cast, mR_at, mR_ne, mu_mR, il_t, il_f, ilt_t, ilt_f, ieq_t, ieq_f, nlt_t]
    (try simp (disch := omega) only [ih]); rw [sF]
    first | exact congrArg (fun x => some (iZ x)) (by omega) | (split <;> exact congrArg (fun x => some (iZ x)) (by omega)) | (split <;> split <;> exact congrArg (fun x => some (iZ x)) (by omega)) | (split <;> (try split) <;> (try split) <;> (try split) <;> exact congrArg (fun x => some (iZ x)) (by omega))
theorem g_parcelsWaitingIn {p h : Int} {M : Mem} {s : Nat} {A : Int → Int} (hO : Ok p h A) (hm : Rm p h) (hs : s ≤ 10) (hR : Rw M s) (hC : Cl M s A) {v : Int} (hv : 0 ≤ v) (hv2 : v < 9) : f_X5_parcelsWaitingIn M s (iZ v) = some (iZ (sWait A v)) := by
  obtain ⟨o1, o2, o3, o4, o5, o6, o7, o8, o9, o10, o11, ol, ob, op, oc⟩ := id hO
  have := g_parcelsWaitingIn_4 hO hm hs hR hC hv hv2 (A 2).toNat FU 0 0 (by omega) (by omega) (by unfold FU; omega)
  unfold f_X5_parcelsWaitingIn sWait
  simp only [zc_0]
  rw [this, Int.zero_add]
theorem g_parcelsArrivingWithin_4 {p h : Int} {M : Mem} {s : Nat} {A : Int → Int} (hO : Ok p h A) (hm : Rm p h) (hs : s ≤ 10) (hR : Rw M s) (hC : Cl M s A) {v : Int} (hv : 1 ≤ v) (hv2 : v ≤ 120) :
    ∀ (n f : Nat) (i acc : Int), 0 ≤ i → i + n = A 2 → n < f → f_X5_parcelsArrivingWithin_4 M f s (iZ v) (iZ acc) (iZ i) = some (iZ (acc + sF (fun k => if A (108 + 7 * k + 4) = -1 ∧ A (108 + 7 * k + 6) ≤ A 4 + v then 1 else 0) n i)) := by
  obtain ⟨o1, o2, o3, o4, o5, o6, o7, o8, o9, o10, o11, ol, ob, op, oc⟩ := id hO
  obtain ⟨c0, c1, c2, c3, c4, c5, c6, c7, cl, cp⟩ := id hC
  unfold Rm at hm
  intro n
  induction n with
  | zero =>
    intro f i acc h0 hi hf
    obtain ⟨f, rfl⟩ : ∃ g, f = g + 1 := ⟨f - 1, by omega⟩
    simp (disch := omega) only [f_X5_parcelsArrivingWithin_4, c2, c4, ↓reduceIte, ↓nm_s, ↓lk_s, ↓pc_s, z_add, z_sub, z_mul, z_neg, z_le, z_lt, z_eq, z_ix, z_vin, z_rem, zc_0, zc_1, zc_2, zc_3, zc_4, zc_5, zc_6, zc_7, zc_8, zc_9, zc_10, zc_12, zc_20, zc_60, zc_80, zc_108, zc_120, zc_185, zc_192, zc_1344, zc_9999, zc_FAR, zc_NEV, ite_T, ite_F, bd_s, bd2_s, rz_z, toNat_cast, mR_at, mR_ne, mu_mR, il_t, il_f, ilt_t, ilt_f, ieq_t, ieq_f, nlt_t]
    simp [sF]
  | succ n ih =>
    intro f i acc h0 hi hf
    obtain ⟨f, rfl⟩ : ∃ g, f = g + 1 := ⟨f - 1, by omega⟩
    have hp := op i h0 (by omega)
    unfold pcl at hp
    have hr := hR.1 i h0 (by omega)
    obtain ⟨p0, p1, p2, p3, p4, p5, p6⟩ := cp i h0 (by omega)
    by_cases ht : A (108 + 7 * i + 4) = -1
    case neg =>
      simp (disch := omega) only [f_X5_parcelsArrivingWithin_4, f_X5_parcelsArrivingWithin_45, f_X3_isUnderWay, c2, c4, p5, ↓reduceIte, ↓nm_s, ↓lk_s, ↓pc_s, z_add, z_sub, z_mul, z_neg, z_le, z_lt, z_eq, z_ix, z_vin, z_rem, zc_0, zc_1, zc_2, zc_3, zc_4, zc_5, zc_6, zc_7, zc_8, zc_9, zc_10, zc_12, zc_20, zc_60, zc_80, zc_108, zc_120, zc_185, zc_192, zc_1344, zc_9999, zc_FAR, zc_NEV, ite_T, ite_F, bd_s, bd2_s, rz_z, toNat_cast, mR_at, mR_ne, mu_mR, il_t, il_f, ilt_t, ilt_f, ieq_t, ieq_f, nlt_t]
      (try simp (disch := omega) only [ih]); rw [sF]
      rw [if_neg (fun hc => ht hc.1)]
      exact congrArg (fun x => some (iZ x)) (by omega)
    have p6 := p6 ht
    have hd : (A (108 + 7 * i + 4) = -1 ∧ A (108 + 7 * i + 6) ≤ A 4 + v) = ¬ (A 4 + v < A (108 + 7 * i + 6)) := propext ⟨fun hx => by omega, fun hx => ⟨ht, by omega⟩⟩
    simp (disch := omega) only [f_X5_parcelsArrivingWithin_4, f_X5_parcelsArrivingWithin_45, f_X3_isUnderWay, c2, c4, p5, p6, ↓reduceIte, ↓nm_s, ↓lk_s, ↓pc_s, z_add, z_sub, z_mul, z_neg, z_le, z_lt, z_eq, z_ix, z_vin, z_rem, zc_0, zc_1, zc_2, zc_3, zc_4, zc_5, zc_6, zc_7, zc_8, zc_9, zc_10, zc_12, zc_20, zc_60, zc_80, zc_108, zc_120, zc_185, zc_192, zc_1344, zc_9999, zc_FAR, zc_NEV, ite_T, ite_F, bd_s, bd2_s, rz_z, toNat_cast, mR_at, mR_ne, mu_mR, il_t, il_f, ilt_t, ilt_f, ieq_t, ieq_f, nlt_t]
    (try simp (disch := omega) only [ih]); rw [sF]
    rw [show (if A (108 + 7 * i + 4) = -1 ∧ A (108 + 7 * i + 6) ≤ A 4 + v then (1 : Int) else 0) = if A 4 + v < A (108 + 7 * i + 6) then 0 else 1 from by simp only [hd]; by_cases hx : A 4 + v < A (108 + 7 * i + 6) <;> simp [hx]]
    split <;> exact congrArg (fun x => some (iZ x)) (by omega)
theorem g_parcelsArrivingWithin {p h : Int} {M : Mem} {s : Nat} {A : Int → Int} (hO : Ok p h A) (hm : Rm p h) (hs : s ≤ 10) (hR : Rw M s) (hC : Cl M s A) {v : Int} (hv : 1 ≤ v) (hv2 : v ≤ 120) : f_X5_parcelsArrivingWithin M s (iZ v) = some (iZ (sArr A v)) := by
  obtain ⟨o1, o2, o3, o4, o5, o6, o7, o8, o9, o10, o11, ol, ob, op, oc⟩ := id hO
  have := g_parcelsArrivingWithin_4 hO hm hs hR hC hv hv2 (A 2).toNat FU 0 0 (by omega) (by omega) (by unfold FU; omega)
  unfold f_X5_parcelsArrivingWithin sArr
  simp only [zc_0]
  rw [this, Int.zero_add]
theorem g_sumOfStamps_4 {p h : Int} {M : Mem} {s : Nat} {A : Int → Int} (hO : Ok p h A) (hm : Rm p h) (hs : s ≤ 10) (hR : Rw M s) (hC : Cl M s A) :
    ∀ (n f : Nat) (i acc : Int), 0 ≤ i → i + n = A 2 → n < f → f_X5_sumOfStamps_4 M f s (iZ acc) (iZ i) = some (iZ (acc + sF (fun k => A (108 + 7 * k + 3)) n i)) := by
  obtain ⟨o1, o2, o3, o4, o5, o6, o7, o8, o9, o10, o11, ol, ob, op, oc⟩ := id hO
  obtain ⟨c0, c1, c2, c3, c4, c5, c6, c7, cl, cp⟩ := id hC
  unfold Rm at hm
  intro n
  induction n with
  | zero =>
    intro f i acc h0 hi hf
    obtain ⟨f, rfl⟩ : ∃ g, f = g + 1 := ⟨f - 1, by omega⟩
    simp (disch := omega) only [f_X5_sumOfStamps_4, c2, ↓reduceIte, ↓nm_s, ↓lk_s, ↓pc_s, z_add, z_sub, z_mul, z_neg, z_le, z_lt, z_eq, z_ix, z_vin, z_rem, zc_0, zc_1, zc_2, zc_3, zc_4, zc_5, zc_6, zc_7, zc_8, zc_9, zc_10, zc_12, zc_20, zc_60, zc_80, zc_108, zc_120, zc_185, zc_192, zc_1344, zc_9999, zc_FAR, zc_NEV, ite_T, ite_F, bd_s, bd2_s, rz_z, toNat_cast, mR_at, mR_ne, mu_mR, il_t, il_f, ilt_t, ilt_f, ieq_t, ieq_f, nlt_t]
    simp [sF]
  | succ n ih =>
    intro f i acc h0 hi hf
    obtain ⟨f, rfl⟩ : ∃ g, f = g + 1 := ⟨f - 1, by omega⟩
    have hp := op i h0 (by omega)
    unfold pcl at hp
    have hr := hR.1 i h0 (by omega)
    obtain ⟨p0, p1, p2, p3, p4, p5, p6⟩ := cp i h0 (by omega)
    simp (disch := omega) only [f_X5_sumOfStamps_4, c2, p2, ↓reduceIte, ↓nm_s, ↓lk_s, ↓pc_s, z_add, z_sub, z_mul, z_neg, z_le, z_lt, z_eq, z_ix, z_vin, z_rem, zc_0, zc_1, zc_2, zc_3, zc_4, zc_5, zc_6, zc_7, zc_8, zc_9, zc_10, zc_12, zc_20, zc_60, zc_80, zc_108, zc_120, zc_185, zc_192, zc_1344, zc_9999, zc_FAR, zc_NEV, ite_T, ite_F, bd_s, bd2_s, rz_z, toNat_cast, mR_at, mR_ne, mu_mR, il_t, il_f, ilt_t, ilt_f, ieq_t, ieq_f, nlt_t]
    (try simp (disch := omega) only [ih]); rw [sF]
    first | exact congrArg (fun x => some (iZ x)) (by omega) | (split <;> exact congrArg (fun x => some (iZ x)) (by omega)) | (split <;> split <;> exact congrArg (fun x => some (iZ x)) (by omega)) | (split <;> (try split) <;> (try split) <;> (try split) <;> exact congrArg (fun x => some (iZ x)) (by omega))
theorem g_sumOfStamps {p h : Int} {M : Mem} {s : Nat} {A : Int → Int} (hO : Ok p h A) (hm : Rm p h) (hs : s ≤ 10) (hR : Rw M s) (hC : Cl M s A) : f_X5_sumOfStamps M s  = some (iZ (sStm A)) := by
  obtain ⟨o1, o2, o3, o4, o5, o6, o7, o8, o9, o10, o11, ol, ob, op, oc⟩ := id hO
  have := g_sumOfStamps_4 hO hm hs hR hC  (A 2).toNat FU 0 0 (by omega) (by omega) (by unfold FU; omega)
  unfold f_X5_sumOfStamps sStm
  simp only [zc_0]
  rw [this, Int.zero_add]
