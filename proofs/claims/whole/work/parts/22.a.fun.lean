/-- the first of n numbers from i on with c, or -1 -/
noncomputable def fF (c : Int → Prop) : Nat → Int → Int
  | 0, _ => -1
  | n + 1, i => @ite _ (c i) (Classical.propDecidable _) i (fF c n (i + 1))
theorem fF_t {c : Int → Prop} {n : Nat} {i : Int} (h : c i) : fF c (n + 1) i = i := by unfold fF; exact @if_pos _ (Classical.propDecidable _) h _ _ _
theorem fF_f {c : Int → Prop} {n : Nat} {i : Int} (h : ¬ c i) : fF c (n + 1) i = fF c n (i + 1) := by
  show @ite _ (c i) (Classical.propDecidable _) i (fF c n (i + 1)) = _
  exact @if_neg _ (Classical.propDecidable _) h _ _ _
theorem fF_in {c : Int → Prop} : ∀ (n : Nat) (i : Int), 0 ≤ i → (fF c n i = -1 ∧ ∀ k, i ≤ k → k < i + n → ¬ c k) ∨ (i ≤ fF c n i ∧ fF c n i < i + n ∧ c (fF c n i) ∧ ∀ k, i ≤ k → k < fF c n i → ¬ c k) := by
  intro n
  induction n with
  | zero => intro i _; exact .inl ⟨rfl, fun k k0 k1 => by omega⟩
  | succ n ih =>
    intro i i0
    by_cases h : c i
    · rw [fF_t h]; exact .inr ⟨by omega, by omega, h, fun k k0 k1 => by omega⟩
    · rw [fF_f h]
      rcases ih (i + 1) (by omega) with ⟨h1, h2⟩ | ⟨h1, h2, h3, h4⟩
      · exact .inl ⟨h1, fun k k0 k1 => by
          by_cases hk : k = i
          · rw [hk]; exact h
          · exact h2 k (by omega) (by omega)⟩
      · exact .inr ⟨by omega, by omega, h3, fun k k0 k1 => by
          by_cases hk : k = i
          · rw [hk]; exact h
          · exact h4 k (by omega) k1⟩
theorem fF_cg {c d : Int → Prop} (n : Nat) (i : Int) (h : ∀ k, i ≤ k → k < i + n → (c k ↔ d k)) : fF c n i = fF d n i := by
  induction n generalizing i with
  | zero => rfl
  | succ n ih =>
    have h0 := h i (by omega) (by omega)
    by_cases hc : c i
    · rw [fF_t hc, fF_t (h0.mp hc)]
    · rw [fF_f hc, fF_f (fun hd => hc (h0.mpr hd)), ih _ (fun k a b => h k (by omega) (by omega))]
theorem fF_sn {c : Int → Prop} : ∀ (n : Nat) (i : Int), 0 ≤ i → fF c (n + 1) i = if fF c n i = -1 then (@ite _ (c (i + n)) (Classical.propDecidable _) (i + n) (-1)) else fF c n i := by
  intro n
  induction n with
  | zero =>
    intro i i0
    rw [if_pos (by rfl)]
    show @ite _ (c i) (Classical.propDecidable _) i (-1) = _
    rw [show i + ((0 : Nat) : Int) = i by omega]
  | succ n ih =>
    intro i i0
    by_cases h : c i
    · rw [fF_t h, fF_t h, if_neg (by omega)]
    · rw [fF_f h, ih (i + 1) (by omega), fF_f h, show i + 1 + (n : Int) = i + ((n + 1 : Nat) : Int) by omega]
noncomputable def sPos (A : Int → Int) (id : Int) : Int := fF (fun k => A (108 + 7 * k) = id) (A 2).toNat 0
theorem sPos_in {p h : Int} {A : Int → Int} (hO : Ok p h A) (id : Int) : sPos A id = -1 ∨ (0 ≤ sPos A id ∧ sPos A id < A 2 ∧ A (108 + 7 * sPos A id) = id) := by
  have o5 := hO.2.2.2.2.1
  rcases fF_in (c := fun k => A (108 + 7 * k) = id) (A 2).toNat 0 (by omega) with ⟨h1, h2⟩ | ⟨h1, h2, h3, h4⟩
  · exact .inl h1
  · exact .inr ⟨h1, by unfold sPos; omega, h3⟩
abbrev i32 (x : Int) : Prop := -2147483648 ≤ x ∧ x ≤ 2147483647
theorem g_positionOf_2 {p h : Int} {M : Mem} {s : Nat} {A : Int → Int} (hO : Ok p h A) (hm : Rm p h) (hs : s ≤ 10) (hR : Rw M s) (hC : Cl M s A) {id : Int} (hi : i32 id) :
    ∀ (n f : Nat) (i : Int), 0 ≤ i → i + n = A 2 → n < f → f_X5_positionOf_2 M f s (iZ id) (iZ i) = some (iZ (fF (fun k => A (108 + 7 * k) = id) n i)) := by
  have hO2 := hO
  have hC2 := hC
  obtain ⟨o1, o2, o3, o4, o5, o6, o7, o8, o9, o10, o11, ol, ob, op, oc⟩ := hO2
  obtain ⟨c0, c1, c2, c3, c4, c5, c6, c7, cl, cp⟩ := hC2
  obtain ⟨ii1, ii2⟩ := hi
  unfold Rm at hm
  intro n
  induction n with
  | zero =>
    intro f i i0 hi hf
    obtain ⟨f, rfl⟩ : ∃ g, f = g + 1 := ⟨f - 1, by omega⟩
    simp (disch := omega) only [f_X5_positionOf_2, c2, ↓reduceIte, ↓nm_s, ↓lk_s, ↓pc_s, z_add, z_sub, z_mul, z_neg, z_le, z_lt, z_eq, z_ix, z_vin, z_rem, zc_0, zc_1, zc_2, zc_3, zc_4, zc_5, zc_6, zc_7, zc_8, zc_9, zc_10, zc_12, zc_20, zc_60, zc_80, zc_108, zc_120, zc_185, zc_192, zc_1344, zc_9999, zc_FAR, zc_NEV, ite_T, ite_F, bd_s, bd2_s, rz_z, toNat_cast, mR_at, mR_ne, mu_mR, il_t, il_f, ilt_t, ilt_f, ieq_t, ieq_f, nlt_t]
    rfl
  | succ n ih =>
    intro f i i0 hi hf
    obtain ⟨f, rfl⟩ : ∃ g, f = g + 1 := ⟨f - 1, by omega⟩
    have hp := op i i0 (by omega)
    unfold pcl at hp
    have hr := hR.1 i i0 (by omega)
    obtain ⟨p0, p1, p2, p3, p4, p5, p6⟩ := cp i i0 (by omega)
    by_cases hc : A (108 + 7 * i) = id
    · rw [fF_t (c := fun k => A (108 + 7 * k) = id) hc]
      simp (disch := omega) only [f_X5_positionOf_2, c2, p0, ↓reduceIte, ↓nm_s, ↓lk_s, ↓pc_s, z_add, z_sub, z_mul, z_neg, z_le, z_lt, z_eq, z_ix, z_vin, z_rem, zc_0, zc_1, zc_2, zc_3, zc_4, zc_5, zc_6, zc_7, zc_8, zc_9, zc_10, zc_12, zc_20, zc_60, zc_80, zc_108, zc_120, zc_185, zc_192, zc_1344, zc_9999, zc_FAR, zc_NEV, ite_T, ite_F, bd_s, bd2_s, rz_z, toNat_cast, mR_at, mR_ne, mu_mR, il_t, il_f, ilt_t, ilt_f, ieq_t, ieq_f, nlt_t]
    · rw [fF_f (c := fun k => A (108 + 7 * k) = id) hc, ← ih f (i + 1) (by omega) (by omega) (by omega)]
      simp (disch := omega) only [f_X5_positionOf_2, c2, p0, ↓reduceIte, ↓nm_s, ↓lk_s, ↓pc_s, z_add, z_sub, z_mul, z_neg, z_le, z_lt, z_eq, z_ix, z_vin, z_rem, zc_0, zc_1, zc_2, zc_3, zc_4, zc_5, zc_6, zc_7, zc_8, zc_9, zc_10, zc_12, zc_20, zc_60, zc_80, zc_108, zc_120, zc_185, zc_192, zc_1344, zc_9999, zc_FAR, zc_NEV, ite_T, ite_F, bd_s, bd2_s, rz_z, toNat_cast, mR_at, mR_ne, mu_mR, il_t, il_f, ilt_t, ilt_f, ieq_t, ieq_f, nlt_t]
theorem g_positionOf {p h : Int} {M : Mem} {s : Nat} {A : Int → Int} (hO : Ok p h A) (hm : Rm p h) (hs : s ≤ 10) (hR : Rw M s) (hC : Cl M s A) {id : Int} (hi : i32 id) : f_X5_positionOf M s (iZ id) = some (iZ (sPos A id)) := by
  have o5 := hO.2.2.2.2.1
  have o6 := hO.2.2.2.2.2.1
  unfold f_X5_positionOf
  simp only [zc_0]
  exact g_positionOf_2 hO hm hs hR hC hi (A 2).toNat FU 0 (by omega) (by omega) (by unfold FU; omega)
theorem g_find {p h : Int} {M : Mem} {s : Nat} {A : Int → Int} (hO : Ok p h A) (hm : Rm p h) (hs : s ≤ 10) (hR : Rw M s) (hC : Cl M s A) {id : Int} (hi : i32 id) : f_X5_find M s (iZ id) = some (if sPos A id = -1 then none else some (ix (M 5 s (sPos A id).toNat))) := by
  have o6 := hO.2.2.2.2.2.1
  have hpos := g_positionOf hO hm hs hR hC hi
  rcases sPos_in hO id with h1 | ⟨h1, h2, h3⟩
  · rw [h1] at hpos
    rw [h1]
    simp (disch := omega) only [f_X5_find, hpos, ↓reduceIte, ↓nm_s, ↓lk_s, ↓pc_s, z_add, z_sub, z_mul, z_neg, z_le, z_lt, z_eq, z_ix, z_vin, z_rem, zc_0, zc_1, zc_2, zc_3, zc_4, zc_5, zc_6, zc_7, zc_8, zc_9, zc_10, zc_12, zc_20, zc_60, zc_80, zc_108, zc_120, zc_185, zc_192, zc_1344, zc_9999, zc_FAR, zc_NEV, ite_T, ite_F, bd_s, bd2_s, rz_z, toNat_cast, mR_at, mR_ne, mu_mR, il_t, il_f, ilt_t, ilt_f, ieq_t, ieq_f, nlt_t]
  · have hr := hR.1 _ h1 (by omega)
    simp (disch := omega) only [f_X5_find, hpos, ↓reduceIte, ↓nm_s, ↓lk_s, ↓pc_s, z_add, z_sub, z_mul, z_neg, z_le, z_lt, z_eq, z_ix, z_vin, z_rem, zc_0, zc_1, zc_2, zc_3, zc_4, zc_5, zc_6, zc_7, zc_8, zc_9, zc_10, zc_12, zc_20, zc_60, zc_80, zc_108, zc_120, zc_185, zc_192, zc_1344, zc_9999, zc_FAR, zc_NEV, ite_T, ite_F, bd_s, bd2_s, rz_z, toNat_cast, mR_at, mR_ne, mu_mR, il_t, il_f, ilt_t, ilt_f, ieq_t, ieq_f, nlt_t]
theorem g_X8_find_2 {p h : Int} {M : Mem} {A : Int → Int} (hO : Ok p h A) (hm : Rm p h) (hA : M 21 0 = rz A) {id : Int} (hi : i32 id) :
    ∀ (n f : Nat) (i : Int), 0 ≤ i → i + n = A 2 → n < f → f_X8_find_2 M f (iZ id) (iZ i) = some (iZ (fF (fun k => A (108 + 7 * k) = id) n i)) := by
  have hO2 := hO
  obtain ⟨o1, o2, o3, o4, o5, o6, o7, o8, o9, o10, o11, ol, ob, op, oc⟩ := hO2
  obtain ⟨ii1, ii2⟩ := hi
  unfold Rm at hm
  intro n
  induction n with
  | zero =>
    intro f i i0 hi hf
    obtain ⟨f, rfl⟩ : ∃ g, f = g + 1 := ⟨f - 1, by omega⟩
    simp (disch := omega) only [f_X8_find_2, hA, rz_2, ↓reduceIte, ↓nm_s, ↓lk_s, ↓pc_s, z_add, z_sub, z_mul, z_neg, z_le, z_lt, z_eq, z_ix, z_vin, z_rem, zc_0, zc_1, zc_2, zc_3, zc_4, zc_5, zc_6, zc_7, zc_8, zc_9, zc_10, zc_12, zc_20, zc_60, zc_80, zc_108, zc_120, zc_185, zc_192, zc_1344, zc_9999, zc_FAR, zc_NEV, ite_T, ite_F, bd_s, bd2_s, rz_z, toNat_cast, mR_at, mR_ne, mu_mR, il_t, il_f, ilt_t, ilt_f, ieq_t, ieq_f, nlt_t]
    rfl
  | succ n ih =>
    intro f i i0 hi hf
    obtain ⟨f, rfl⟩ : ∃ g, f = g + 1 := ⟨f - 1, by omega⟩
    have hp := op i i0 (by omega)
    unfold pcl at hp
    by_cases hc : A (108 + 7 * i) = id
    · rw [fF_t (c := fun k => A (108 + 7 * k) = id) hc]
      simp (disch := omega) only [f_X8_find_2, hA, rz_2, ↓reduceIte, ↓nm_s, ↓lk_s, ↓pc_s, z_add, z_sub, z_mul, z_neg, z_le, z_lt, z_eq, z_ix, z_vin, z_rem, zc_0, zc_1, zc_2, zc_3, zc_4, zc_5, zc_6, zc_7, zc_8, zc_9, zc_10, zc_12, zc_20, zc_60, zc_80, zc_108, zc_120, zc_185, zc_192, zc_1344, zc_9999, zc_FAR, zc_NEV, ite_T, ite_F, bd_s, bd2_s, rz_z, toNat_cast, mR_at, mR_ne, mu_mR, il_t, il_f, ilt_t, ilt_f, ieq_t, ieq_f, nlt_t]
    · rw [fF_f (c := fun k => A (108 + 7 * k) = id) hc, ← ih f (i + 1) (by omega) (by omega) (by omega)]
      simp (disch := omega) only [f_X8_find_2, hA, rz_2, ↓reduceIte, ↓nm_s, ↓lk_s, ↓pc_s, z_add, z_sub, z_mul, z_neg, z_le, z_lt, z_eq, z_ix, z_vin, z_rem, zc_0, zc_1, zc_2, zc_3, zc_4, zc_5, zc_6, zc_7, zc_8, zc_9, zc_10, zc_12, zc_20, zc_60, zc_80, zc_108, zc_120, zc_185, zc_192, zc_1344, zc_9999, zc_FAR, zc_NEV, ite_T, ite_F, bd_s, bd2_s, rz_z, toNat_cast, mR_at, mR_ne, mu_mR, il_t, il_f, ilt_t, ilt_f, ieq_t, ieq_f, nlt_t]
theorem g_X8_find {p h : Int} {M : Mem} {A : Int → Int} (hO : Ok p h A) (hm : Rm p h) (hA : M 21 0 = rz A) {id : Int} (hi : i32 id) : f_X8_find M (iZ id) = some (iZ (sPos A id)) := by
  have o5 := hO.2.2.2.2.1
  have o6 := hO.2.2.2.2.2.1
  unfold f_X8_find
  simp only [zc_0]
  exact g_X8_find_2 hO hm hA hi (A 2).toNat FU 0 (by omega) (by omega) (by unfold FU; omega)
theorem c64_0 : (0 : Int64) = (iZ 0).toInt64 := by decide
theorem c64_1 : (1 : Int64) = (iZ 1).toInt64 := by decide
theorem c64_5 : (5 : Int64) = (iZ 5).toInt64 := by decide
theorem c64_9 : (9 : Int64) = (iZ 9).toInt64 := by decide
theorem c64_20 : (20 : Int64) = (iZ 20).toInt64 := by decide
theorem c64_32 : (32 : Int64) = (iZ 32).toInt64 := by decide
theorem c64_48 : (48 : Int64) = (iZ 48).toInt64 := by decide
theorem c64_57 : (57 : Int64) = (iZ 57).toInt64 := by decide
theorem c64_60 : (60 : Int64) = (iZ 60).toInt64 := by decide
theorem c64_120 : (120 : Int64) = (iZ 120).toInt64 := by decide
theorem c64_126 : (126 : Int64) = (iZ 126).toInt64 := by decide
theorem c64_9999 : (9999 : Int64) = (iZ 9999).toInt64 := by decide
/-- one of both, as a boolean -/
def bI (c : Prop) [Decidable c] : Int := if c then 1 else 0
theorem g_X8_in (M : Mem) {a b c : Int} (ha : i32 a) (hb : i32 b) (hc : i32 c) : f_X8_in M (iZ a).toInt64 (iZ b).toInt64 (iZ c).toInt64 = some (iZ (bI (b ≤ a ∧ a ≤ c))) := by
  unfold i32 at *
  unfold f_X8_in bI
  by_cases h1 : a < b
  · rw [if_pos (by rw [lg_lt (by omega) (by omega) (by omega) (by omega)]; exact h1), if_neg (by omega)]; rfl
  · rw [if_neg (by rw [lg_lt (by omega) (by omega) (by omega) (by omega)]; exact h1)]
    by_cases h2 : c < a
    · rw [if_pos (by rw [lg_gt (by omega) (by omega) (by omega) (by omega)]; exact h2), if_neg (by omega)]; rfl
    · rw [if_neg (by rw [lg_gt (by omega) (by omega) (by omega) (by omega)]; exact h2), if_pos (by omega)]; rfl
theorem bI_c {c : Prop} [Decidable c] : bI c = 0 ∨ bI c = 1 := by unfold bI; split <;> omega
theorem isB_bI (c : Prop) [Decidable c] : isB (iZ (bI c)) = True := by
  refine eq_true ?_
  unfold bI
  split
  · exact .inr rfl
  · exact .inl rfl
theorem g_X8_isPlace {p h : Int} {M : Mem} {A : Int → Int} (hO : Ok p h A) (hA : M 21 0 = rz A) {a : Int} (ha : i32 a) : f_X8_isPlace M (iZ a) = some (iZ (bI (0 ≤ a ∧ a < A 0))) := by
  have o1 := hO.1
  have o2 := hO.2.1
  unfold f_X8_isPlace
  rw [show M 21 0 0 - (1 : Int32) = iZ (A 0 - 1) by rw [hA, zc_1]; exact z_sub _ _, c64_0, g_X8_in M ha (by unfold i32; omega) (by unfold i32; omega), bd_s, if_pos (of_eq_true (isB_bI _))]
  unfold bI
  by_cases hc : 0 ≤ a ∧ a < A 0
  · rw [if_pos hc, if_pos (by omega)]
  · rw [if_neg hc, if_neg (by omega)]
theorem g_X8_isLink {p h : Int} {M : Mem} {A : Int → Int} (hO : Ok p h A) (hA : M 21 0 = rz A) {a : Int} (ha : i32 a) : f_X8_isLink M (iZ a) = some (iZ (bI (0 ≤ a ∧ a < A 1))) := by
  have o1 := hO.2.2.1
  have o2 := hO.2.2.2.1
  unfold f_X8_isLink
  rw [show M 21 0 1 - (1 : Int32) = iZ (A 1 - 1) by rw [hA, zc_1]; exact z_sub _ _, c64_0, g_X8_in M ha (by unfold i32; omega) (by unfold i32; omega), bd_s, if_pos (of_eq_true (isB_bI _))]
  unfold bI
  by_cases hc : 0 ≤ a ∧ a < A 1
  · rw [if_pos hc, if_pos (by omega)]
  · rw [if_neg hc, if_neg (by omega)]
theorem g_hasPlace {p h : Int} {M : Mem} {s : Nat} {A : Int → Int} (hO : Ok p h A) (hC : Cl M s A) {a : Int} (ha : i32 a) : f_X2_hasPlace M s (iZ a) = some (iZ (bI (0 ≤ a ∧ a < A 0))) := by
  have o1 := hO.1
  have o2 := hO.2.1
  have c0 := hC.1
  unfold i32 at ha
  unfold bI
  by_cases h1 : a < 0
  · rw [if_neg (by omega)]
    simp (disch := omega) only [f_X2_hasPlace, c0, ↓reduceIte, ↓nm_s, ↓lk_s, ↓pc_s, z_add, z_sub, z_mul, z_neg, z_le, z_lt, z_eq, z_ix, z_vin, z_rem, zc_0, zc_1, zc_2, zc_3, zc_4, zc_5, zc_6, zc_7, zc_8, zc_9, zc_10, zc_12, zc_20, zc_60, zc_80, zc_108, zc_120, zc_185, zc_192, zc_1344, zc_9999, zc_FAR, zc_NEV, ite_T, ite_F, bd_s, bd2_s, rz_z, toNat_cast, mR_at, mR_ne, mu_mR, il_t, il_f, ilt_t, ilt_f, ieq_t, ieq_f, nlt_t]
  · by_cases h2 : A 0 ≤ a
    · rw [if_neg (by omega)]
      simp (disch := omega) only [f_X2_hasPlace, c0, ↓reduceIte, ↓nm_s, ↓lk_s, ↓pc_s, z_add, z_sub, z_mul, z_neg, z_le, z_lt, z_eq, z_ix, z_vin, z_rem, zc_0, zc_1, zc_2, zc_3, zc_4, zc_5, zc_6, zc_7, zc_8, zc_9, zc_10, zc_12, zc_20, zc_60, zc_80, zc_108, zc_120, zc_185, zc_192, zc_1344, zc_9999, zc_FAR, zc_NEV, ite_T, ite_F, bd_s, bd2_s, rz_z, toNat_cast, mR_at, mR_ne, mu_mR, il_t, il_f, ilt_t, ilt_f, ieq_t, ieq_f, nlt_t]
    · rw [if_pos (by omega)]
      simp (disch := omega) only [f_X2_hasPlace, c0, ↓reduceIte, ↓nm_s, ↓lk_s, ↓pc_s, z_add, z_sub, z_mul, z_neg, z_le, z_lt, z_eq, z_ix, z_vin, z_rem, zc_0, zc_1, zc_2, zc_3, zc_4, zc_5, zc_6, zc_7, zc_8, zc_9, zc_10, zc_12, zc_20, zc_60, zc_80, zc_108, zc_120, zc_185, zc_192, zc_1344, zc_9999, zc_FAR, zc_NEV, ite_T, ite_F, bd_s, bd2_s, rz_z, toNat_cast, mR_at, mR_ne, mu_mR, il_t, il_f, ilt_t, ilt_f, ieq_t, ieq_f, nlt_t]
theorem g_hasLink {p h : Int} {M : Mem} {s : Nat} {A : Int → Int} (hO : Ok p h A) (hC : Cl M s A) {a : Int} (ha : i32 a) : f_X2_hasLink M s (iZ a) = some (iZ (bI (0 ≤ a ∧ a < A 1))) := by
  have o1 := hO.2.2.1
  have o2 := hO.2.2.2.1
  have c1 := hC.2.1
  unfold i32 at ha
  unfold bI
  by_cases h1 : a < 0
  · rw [if_neg (by omega)]
    simp (disch := omega) only [f_X2_hasLink, c1, ↓reduceIte, ↓nm_s, ↓lk_s, ↓pc_s, z_add, z_sub, z_mul, z_neg, z_le, z_lt, z_eq, z_ix, z_vin, z_rem, zc_0, zc_1, zc_2, zc_3, zc_4, zc_5, zc_6, zc_7, zc_8, zc_9, zc_10, zc_12, zc_20, zc_60, zc_80, zc_108, zc_120, zc_185, zc_192, zc_1344, zc_9999, zc_FAR, zc_NEV, ite_T, ite_F, bd_s, bd2_s, rz_z, toNat_cast, mR_at, mR_ne, mu_mR, il_t, il_f, ilt_t, ilt_f, ieq_t, ieq_f, nlt_t]
  · by_cases h2 : A 1 ≤ a
    · rw [if_neg (by omega)]
      simp (disch := omega) only [f_X2_hasLink, c1, ↓reduceIte, ↓nm_s, ↓lk_s, ↓pc_s, z_add, z_sub, z_mul, z_neg, z_le, z_lt, z_eq, z_ix, z_vin, z_rem, zc_0, zc_1, zc_2, zc_3, zc_4, zc_5, zc_6, zc_7, zc_8, zc_9, zc_10, zc_12, zc_20, zc_60, zc_80, zc_108, zc_120, zc_185, zc_192, zc_1344, zc_9999, zc_FAR, zc_NEV, ite_T, ite_F, bd_s, bd2_s, rz_z, toNat_cast, mR_at, mR_ne, mu_mR, il_t, il_f, ilt_t, ilt_f, ieq_t, ieq_f, nlt_t]
    · rw [if_pos (by omega)]
      simp (disch := omega) only [f_X2_hasLink, c1, ↓reduceIte, ↓nm_s, ↓lk_s, ↓pc_s, z_add, z_sub, z_mul, z_neg, z_le, z_lt, z_eq, z_ix, z_vin, z_rem, zc_0, zc_1, zc_2, zc_3, zc_4, zc_5, zc_6, zc_7, zc_8, zc_9, zc_10, zc_12, zc_20, zc_60, zc_80, zc_108, zc_120, zc_185, zc_192, zc_1344, zc_9999, zc_FAR, zc_NEV, ite_T, ite_F, bd_s, bd2_s, rz_z, toNat_cast, mR_at, mR_ne, mu_mR, il_t, il_f, ilt_t, ilt_f, ieq_t, ieq_f, nlt_t]
theorem g_isBetween (M : Mem) {a b c : Int} (ha : i32 a) (hb : i32 b) (hc : i32 c) : f_X5_isBetween M (iZ a) (iZ b) (iZ c) = some (iZ (bI (b ≤ a ∧ a ≤ c))) := by
  unfold i32 at *
  unfold bI
  by_cases h1 : a < b
  · rw [if_neg (by omega)]
    simp (disch := omega) only [f_X5_isBetween, ↓reduceIte, ↓nm_s, ↓lk_s, ↓pc_s, z_add, z_sub, z_mul, z_neg, z_le, z_lt, z_eq, z_ix, z_vin, z_rem, zc_0, zc_1, zc_2, zc_3, zc_4, zc_5, zc_6, zc_7, zc_8, zc_9, zc_10, zc_12, zc_20, zc_60, zc_80, zc_108, zc_120, zc_185, zc_192, zc_1344, zc_9999, zc_FAR, zc_NEV, ite_T, ite_F, bd_s, bd2_s, rz_z, toNat_cast, mR_at, mR_ne, mu_mR, il_t, il_f, ilt_t, ilt_f, ieq_t, ieq_f, nlt_t]
  · by_cases h2 : c < a
    · rw [if_neg (by omega)]
      simp (disch := omega) only [f_X5_isBetween, ↓reduceIte, ↓nm_s, ↓lk_s, ↓pc_s, z_add, z_sub, z_mul, z_neg, z_le, z_lt, z_eq, z_ix, z_vin, z_rem, zc_0, zc_1, zc_2, zc_3, zc_4, zc_5, zc_6, zc_7, zc_8, zc_9, zc_10, zc_12, zc_20, zc_60, zc_80, zc_108, zc_120, zc_185, zc_192, zc_1344, zc_9999, zc_FAR, zc_NEV, ite_T, ite_F, bd_s, bd2_s, rz_z, toNat_cast, mR_at, mR_ne, mu_mR, il_t, il_f, ilt_t, ilt_f, ieq_t, ieq_f, nlt_t]
    · rw [if_pos (by omega)]
      simp (disch := omega) only [f_X5_isBetween, ↓reduceIte, ↓nm_s, ↓lk_s, ↓pc_s, z_add, z_sub, z_mul, z_neg, z_le, z_lt, z_eq, z_ix, z_vin, z_rem, zc_0, zc_1, zc_2, zc_3, zc_4, zc_5, zc_6, zc_7, zc_8, zc_9, zc_10, zc_12, zc_20, zc_60, zc_80, zc_108, zc_120, zc_185, zc_192, zc_1344, zc_9999, zc_FAR, zc_NEV, ite_T, ite_F, bd_s, bd2_s, rz_z, toNat_cast, mR_at, mR_ne, mu_mR, il_t, il_f, ilt_t, ilt_f, ieq_t, ieq_f, nlt_t]
