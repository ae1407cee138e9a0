theorem nI_iZ (n : Nat) : nI n = iZ n := (Int32.ofInt_eq_ofNat (n := n)).symm
def rmP (k c j : Int) : Int := if j = c - 1 then k else if k ≤ j ∧ j < c - 1 then j + 1 else j
theorem g_removeAt_9 {M : Mem} {s : Nat} (hR : Rw M s) (hs : s ≤ 10) {k c : Int} (k0 : 0 ≤ k) (k1 : k < c) (c1 : c ≤ 12) (hc : M 1 s 3 = iZ c) :
    ∀ (n f : Nat) (a : Int) (Ma : Mem), k ≤ a → a + n = c - 1 → n < f → (∀ b i, ¬ (b = 5 ∧ i = s) → Ma b i = M b i) → (∀ j : Int, 0 ≤ j → j < 12 → ix (Ma 5 s j.toNat) = ix (M 5 s (if k ≤ j ∧ j < a then j + 1 else j).toNat)) →
    ∃ M2, f_X5_removeAt_9 f Ma s (ix (M 5 s k.toNat)) (iZ a) = some M2 ∧ (∀ b i, ¬ (b = 5 ∧ i = s) → ¬ (b = 1 ∧ i = s) → M2 b i = M b i) ∧ M2 1 s 3 = iZ (c - 1) ∧ (∀ d, d ≠ 3 → M2 1 s d = M 1 s d) ∧ ∀ j : Int, 0 ≤ j → j < 12 → ix (M2 5 s j.toNat) = ix (M 5 s (rmP k c j).toNat) := by
  have hrk := hR.1 k k0 (by omega)
  intro n
  induction n with
  | zero =>
    intro f a Ma a0 ha hf hM hj
    obtain ⟨f, rfl⟩ : ∃ g, f = g + 1 := ⟨f - 1, by omega⟩
    have hM1 := hM 1 s (by omega)
    refine ⟨mu (mu Ma 5 s (c - 1).toNat (iZ (ix (M 5 s k.toNat)))) 1 s 3 (iZ (c - 1)), ?_, fun b i h1 h2 => ?_, mu_hit _ _ _ _ _, fun d hd => ?_, fun j j0 j1 => ?_⟩
    · simp (disch := omega) only [f_X5_removeAt_9, hM1, hc, mu_miss, nI_iZ, ↓reduceIte, ↓nm_s, ↓lk_s, ↓pc_s, z_add, z_sub, z_mul, z_neg, z_le, z_lt, z_eq, z_ix, z_vin, z_rem, zc_0, zc_1, zc_2, zc_3, zc_4, zc_5, zc_6, zc_7, zc_8, zc_9, zc_10, zc_12, zc_20, zc_60, zc_80, zc_108, zc_120, zc_185, zc_192, zc_1344, zc_9999, zc_FAR, zc_NEV, ite_T, ite_F, bd_s, bd2_s, rz_z, toNat_cast, mR_at, mR_ne, mu_mR, il_t, il_f, ilt_t, ilt_f, ieq_t, ieq_f, nlt_t]
    · rw [mu_ne _ _ _ h2, mu_ne _ _ _ h1]; exact hM b i h1
    · rw [mu_miss _ _ (by omega), mu_miss _ _ (by omega), hM1]
    · rw [mu_miss _ _ (by omega)]
      unfold rmP
      by_cases h1 : j = c - 1
      · rw [if_pos h1, h1, mu_hit, z_ix (by omega) (by omega)]
        omega
      · rw [if_neg h1, mu_miss _ _ (by omega), hj j j0 j1]
        rw [show a = c - 1 by omega]
  | succ n ih =>
    intro f a Ma a0 ha hf hM hj
    obtain ⟨f, rfl⟩ : ∃ g, f = g + 1 := ⟨f - 1, by omega⟩
    have hM1 := hM 1 s (by omega)
    have ha1 := hj (a + 1) (by omega) (by omega)
    rw [if_neg (by omega)] at ha1
    have hra := hR.1 (a + 1) (by omega) (by omega)
    obtain ⟨M2, h1, h2⟩ := ih f (a + 1) (mu Ma 5 s a.toNat (iZ (ix (M 5 s (a + 1).toNat)))) (by omega) (by omega) (by omega) (fun b i hb => by rw [mu_ne _ _ _ hb]; exact hM b i hb) (fun j j0 j1 => by
      by_cases hja : j = a
      · rw [hja, mu_hit, if_pos (by omega), z_ix (by omega) (by omega)]
        omega
      · rw [mu_miss _ _ (by omega), hj j j0 j1]
        by_cases h5 : k ≤ j ∧ j < a
        · rw [if_pos h5, if_pos (by omega)]
        · rw [if_neg h5, if_neg (by omega)])
    refine ⟨M2, ?_, h2⟩
    rw [← h1]
    simp (disch := omega) only [f_X5_removeAt_9, hM1, hc, ha1, nI_iZ, ↓reduceIte, ↓nm_s, ↓lk_s, ↓pc_s, z_add, z_sub, z_mul, z_neg, z_le, z_lt, z_eq, z_ix, z_vin, z_rem, zc_0, zc_1, zc_2, zc_3, zc_4, zc_5, zc_6, zc_7, zc_8, zc_9, zc_10, zc_12, zc_20, zc_60, zc_80, zc_108, zc_120, zc_185, zc_192, zc_1344, zc_9999, zc_FAR, zc_NEV, ite_T, ite_F, bd_s, bd2_s, rz_z, toNat_cast, mR_at, mR_ne, mu_mR, il_t, il_f, ilt_t, ilt_f, ieq_t, ieq_f, nlt_t]
theorem g_removeAt {M : Mem} {s : Nat} (hR : Rw M s) (hs : s ≤ 10) {k c : Int} (k0 : 0 ≤ k) (k1 : k < c) (c1 : c ≤ 12) (hc : M 1 s 3 = iZ c) :
    ∃ M2, f_X5_removeAt M s (iZ k) = some M2 ∧ Rw M2 s ∧ FS s M M2 ∧ (∀ b i, ¬ (b = 5 ∧ i = s) → ¬ (b = 1 ∧ i = s) → M2 b i = M b i) ∧ M2 1 s 3 = iZ (c - 1) ∧ (∀ d, d ≠ 3 → M2 1 s d = M 1 s d) ∧ ∀ j : Int, 0 ≤ j → j < 12 → ix (M2 5 s j.toNat) = ix (M 5 s (rmP k c j).toNat) := by
  have hrk := hR.1 k k0 (by omega)
  obtain ⟨M2, h1, h2, h3, h4, h5⟩ := g_removeAt_9 hR hs k0 k1 c1 hc (c - 1 - k).toNat FU k M (Int.le_refl k) (by omega) (by unfold FU; omega) (fun _ _ _ => rfl) (fun j j0 j1 => by rw [if_neg (by omega)])
  have hin : ∀ j, 0 ≤ j → j < 12 → 0 ≤ rmP k c j ∧ rmP k c j < 12 := fun j j0 j1 => by unfold rmP; split <;> (try split) <;> omega
  refine ⟨M2, ?_, ⟨fun j j0 j1 => ?_, fun i j i0 i1 j0 j1 hij => ?_⟩, fun a i hn => h2 a i (fun hc => hn (by unfold own; omega)) (fun hc => hn (by unfold own; omega)), h2, h3, h4, h5⟩
  · simp (disch := omega) only [f_X5_removeAt, ↓reduceIte, ↓nm_s, ↓lk_s, ↓pc_s, z_add, z_sub, z_mul, z_neg, z_le, z_lt, z_eq, z_ix, z_vin, z_rem, zc_0, zc_1, zc_2, zc_3, zc_4, zc_5, zc_6, zc_7, zc_8, zc_9, zc_10, zc_12, zc_20, zc_60, zc_80, zc_108, zc_120, zc_185, zc_192, zc_1344, zc_9999, zc_FAR, zc_NEV, ite_T, ite_F, bd_s, bd2_s, rz_z, toNat_cast, mR_at, mR_ne, mu_mR, il_t, il_f, ilt_t, ilt_f, ieq_t, ieq_f, nlt_t]
    exact h1
  · rw [h5 j j0 j1]
    have := hin j j0 j1
    exact hR.1 _ this.1 this.2
  · rw [h5 i i0 i1, h5 j j0 j1] at hij
    have hi := hin i i0 i1
    have hj := hin j j0 j1
    have := hR.2 _ _ hi.1 hi.2 hj.1 hj.2 hij
    unfold rmP at this
    split at this <;> (try split at this) <;> (try split at this) <;> (try split at this) <;> omega
/-- one is taken out and counted in slot d -/
theorem g_removed {p h : Int} {M M2 : Mem} {s : Nat} {A : Int → Int} (hO : Ok p h A) (hs : s ≤ 10) (hR : Rw M s) (hC : Cl M s A) {k : Int} (k0 : 0 ≤ k) (k1 : k < A 2) {e : Int} {d : Nat} (he : (e = 5 ∧ d = 6) ∨ (e = 6 ∧ d = 7))
    (h2 : ∀ b i, ¬ (b = 5 ∧ i = s) → ¬ (b = 1 ∧ i = s) → ¬ (b = 6 ∧ i = ix (M 5 s k.toNat)) → M2 b i = M b i) (h3 : M2 1 s 3 = iZ (A 2 - 1)) (h4 : ∀ d, d ≠ 3 → M2 1 s d = M 1 s d) (h5 : ∀ j : Int, 0 ≤ j → j < 12 → ix (M2 5 s j.toNat) = ix (M 5 s (rmP k (A 2) j).toNat)) :
    Cl (mu M2 1 s d (iZ (A e + 1))) s (tRm A k e) := by
  obtain ⟨c0, c1, c2, c3, c4, c5, c6, c7, cl, cp⟩ := hC
  obtain ⟨o1, o2, o3, o4, o5, o6, o7, o8, o9, o10, o11, ol, ob, op, oc⟩ := hO
  have lo : ∀ j, j < 108 → j ≠ 2 → j ≠ e → tRm A k e j = A j := fun j j0 j1 j2 => by unfold tRm; rw [uI_ne _ _ j2, tLv_lo (by omega) (by omega) j1]
  have rp : ∀ j c, 0 ≤ j → j < A 2 - 1 → 0 ≤ c → c ≤ 6 → tRm A k e (108 + 7 * j + c) = A (108 + 7 * (if j < k then j else j + 1) + c) := fun j c j0 j1 c0 c1 => by
    unfold tRm
    rw [uI_ne _ _ (by omega)]
    by_cases hj : j < k
    · rw [if_pos hj, tLv_lo (by omega) (by omega) (by omega)]
    · rw [if_neg hj, tLv_hi (by omega) (by omega) (by omega), show 108 + 7 * j + c + 7 = 108 + 7 * (j + 1) + c by omega]
  have m2 : M2 2 s = M 2 s := h2 2 s (by omega) (by omega) (by omega)
  have m4 : ∀ i, M2 4 i = M 4 i := fun i => h2 4 i (by omega) (by omega) (by omega)
  refine ⟨?_, ?_, ?_, ?_, ?_, ?_, ?_, ?_, fun j j0 j1 => ?_, fun j j0 j1 => ?_⟩
  · rw [mu_miss _ _ (by omega), m2, lo 0 (by omega) (by omega) (by omega), c0]
  · rw [mu_miss _ _ (by omega), m2, lo 1 (by omega) (by omega) (by omega), c1]
  · rw [mu_miss _ _ (by omega), h3, tRm_2 A k (by omega)]
  · rw [mu_miss _ _ (by omega), h4 5 (by omega), lo 3 (by omega) (by omega) (by omega), c3]
  · rw [mu_miss _ _ (by omega), h4 4 (by omega), lo 4 (by omega) (by omega) (by omega), c4]
  · rcases he with ⟨rfl, rfl⟩ | ⟨rfl, rfl⟩
    · rw [mu_hit]; unfold tRm; rw [uI_eq]
    · rw [mu_miss _ _ (by omega), h4 6 (by omega), lo 5 (by omega) (by omega) (by omega), c5]
  · rcases he with ⟨rfl, rfl⟩ | ⟨rfl, rfl⟩
    · rw [mu_miss _ _ (by omega), h4 7 (by omega), lo 6 (by omega) (by omega) (by omega), c6]
    · rw [mu_hit]; unfold tRm; rw [uI_eq]
  · rw [mu_miss _ _ (by omega), h4 8 (by omega), lo 7 (by omega) (by omega) (by omega), c7]
  · rw [lo 1 (by omega) (by omega) (by omega)] at j1
    simp (disch := omega) only [mu_miss, m4, lo]
    exact cl j j0 j1
  · rw [tRm_2 A k (by omega)] at j1
    have hq := cp (if j < k then j else j + 1) (by split <;> omega) (by split <;> omega)
    have hpc := op (if j < k then j else j + 1) (by split <;> omega) (by split <;> omega)
    unfold pcl at hpc
    have q0 := rp j 0 j0 (by omega) (by omega) (by omega)
    rw [Int.add_zero, Int.add_zero] at q0
    have hrow : ix (M2 5 s j.toNat) = ix (M 5 s (if j < k then j else j + 1).toNat) := by
      rw [h5 j j0 (by omega)]
      unfold rmP
      rw [if_neg (by omega)]
      by_cases hj : j < k
      · rw [if_neg (by omega), if_pos hj]
      · rw [if_pos (by omega), if_neg hj]
    have hrow2 : ix (mu M2 1 s d (iZ (A e + 1)) 5 s j.toNat) = ix (M 5 s (if j < k then j else j + 1).toNat) := by rw [mu_miss _ _ (by omega)]; exact hrow
    rw [hrow2]
    have hne : ix (M 5 s (if j < k then j else j + 1).toNat) ≠ ix (M 5 s k.toNat) := fun hh => by
      have := hR.2 _ _ (show 0 ≤ (if j < k then j else j + 1) by split <;> omega) (by split <;> omega) k0 (by omega) hh
      split at this <;> omega
    have hm6 : ∀ c, mu M2 1 s d (iZ (A e + 1)) 6 (ix (M 5 s (if j < k then j else j + 1).toNat)) c = M 6 (ix (M 5 s (if j < k then j else j + 1).toNat)) c := fun c => by rw [mu_miss _ _ (by omega), h2 6 _ (by omega) (by omega) (fun hc => hne hc.2)]
    have hsat : sAt (tRm A k e) j = sAt A (if j < k then j else j + 1) := by
      unfold sAt
      rw [rp j 4 j0 (by omega) (by omega) (by omega), rp j 5 j0 (by omega) (by omega) (by omega)]
      by_cases hh : A (108 + 7 * (if j < k then j else j + 1) + 4) = -1
      · rw [if_pos hh, if_pos hh, lo _ (by omega) (by omega) (by omega)]
      · rw [if_neg hh, if_neg hh]
    simp only [hm6]
    rw [q0, hsat, rp j 1 j0 (by omega) (by omega) (by omega), rp j 2 j0 (by omega) (by omega) (by omega), rp j 3 j0 (by omega) (by omega) (by omega), rp j 4 j0 (by omega) (by omega) (by omega), rp j 5 j0 (by omega) (by omega) (by omega), rp j 6 j0 (by omega) (by omega) (by omega)]
    exact hq
