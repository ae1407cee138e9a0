/-- parcel j of service s holds what A says -/
def PcC (M : Mem) (s : Nat) (A : Int → Int) (k : Int) : Prop := M 6 (ix (M 5 s k.toNat)) 0 = iZ (A (108 + 7 * k)) ∧ M 6 (ix (M 5 s k.toNat)) 1 = iZ (A (108 + 7 * k + 2)) ∧ M 6 (ix (M 5 s k.toNat)) 2 = iZ (A (108 + 7 * k + 3)) ∧ M 6 (ix (M 5 s k.toNat)) 3 = iZ (A (108 + 7 * k + 1)) ∧ M 6 (ix (M 5 s k.toNat)) 4 = iZ (sAt A k) ∧ M 6 (ix (M 5 s k.toNat)) 5 = iZ (A (108 + 7 * k + 5)) ∧ (A (108 + 7 * k + 4) = -1 → M 6 (ix (M 5 s k.toNat)) 6 = iZ (A (108 + 7 * k + 6)))
theorem g_copySrv_21 {p h : Int} {A : Int → Int} (hO : Ok p h A) {s t : Nat} (hst : s ≠ t) (hs : s ≤ 10) (ht : t ≤ 10) : ∀ (n f : Nat) (M : Mem) (k : Int), 0 ≤ k → k + n = A 2 → n < f → M 1 s 3 = iZ (A 2) → Rw M s → Rw M t → (∀ j : Int, 0 ≤ j → j < A 2 → PcC M t A j) → (∀ j : Int, 0 ≤ j → j < k → PcC M s A j) →
    ∃ M2, f_X5_copyFrom_21 f M s t (iZ k) = some M2 ∧ (∀ c l, ¬ (c = 6 ∧ 12 * s ≤ l ∧ l < 12 * s + 12) → ¬ (c = 1 ∧ l = s) → M2 c l = M c l) ∧ (∀ j : Int, 0 ≤ j → j < A 2 → PcC M2 s A j) ∧ M2 1 s 3 = iZ (A 2) ∧ M2 1 s 4 = M 1 t 4 ∧ M2 1 s 5 = M 1 t 5 ∧ M2 1 s 6 = M 1 t 6 ∧ M2 1 s 7 = M 1 t 7 ∧ M2 1 s 8 = M 1 t 8 := by
  have o5 := hO.2.2.2.2.1
  have o6 := hO.2.2.2.2.2.1
  clear hO
  intro n
  induction n with
  | zero =>
    intro f M k k0 hk hf hc hRs hRt hPt hPs
    obtain ⟨f, rfl⟩ : ∃ g, f = g + 1 := ⟨f - 1, by omega⟩
    refine ⟨mu (mu (mu (mu (mu M 1 s 4 (M 1 t 4)) 1 s 5 (M 1 t 5)) 1 s 6 (M 1 t 6)) 1 s 7 (M 1 t 7)) 1 s 8 (M 1 t 8), ?_, fun c l a b => ?_, fun j j0 j1 => ?_, ?_, ?_, ?_, ?_, ?_, ?_⟩
    · clear hPt hPs
      simp (disch := omega) only [f_X5_copyFrom_21, hc, mu_miss, ↓reduceIte, ↓nm_s, ↓lk_s, ↓pc_s, z_add, z_sub, z_mul, z_neg, z_le, z_lt, z_eq, z_ix, z_vin, z_rem, zc_0, zc_1, zc_2, zc_3, zc_4, zc_5, zc_6, zc_7, zc_8, zc_9, zc_10, zc_12, zc_20, zc_60, zc_80, zc_108, zc_120, zc_185, zc_192, zc_1344, zc_9999, zc_FAR, zc_NEV, ite_T, ite_F, bd_s, bd2_s, rz_z, toNat_cast, mR_at, mR_ne, mu_mR, il_t, il_f, ilt_t, ilt_f, ieq_t, ieq_f, nlt_t]
    · rw [mu_ne _ _ _ b, mu_ne _ _ _ b, mu_ne _ _ _ b, mu_ne _ _ _ b, mu_ne _ _ _ b]
    · have := hPs j j0 (by omega)
      unfold PcC at *
      simp (disch := omega) only [mu_miss]
      exact this
    all_goals simp (disch := omega) only [mu_hit, mu_miss, hc]
  | succ n ih =>
    intro f M k k0 hk hf hc hRs hRt hPt hPs
    obtain ⟨f, rfl⟩ : ∃ g, f = g + 1 := ⟨f - 1, by omega⟩
    have r1 := hRs.1 k k0 (by omega)
    have r2 := hRt.1 k k0 (by omega)
    obtain ⟨M2, h1, h2, h3⟩ := g_copyParcel (M := M) (i := ix (M 5 s k.toNat)) (j := ix (M 5 t k.toNat)) (by omega)
    have h25 : ∀ l, M2 5 l = M 5 l := fun l => h2 5 l (by omega)
    obtain ⟨M3, q1, q2, q3⟩ := ih f M2 (k + 1) (by omega) (by omega) (by omega) (by rw [h2 1 s (by omega)]; exact hc) (Rw_rows (h25 s) hRs) (Rw_rows (h25 t) hRt) (fun j j0 j1 => by
      have hp := hPt j j0 j1
      have rj := hRt.1 j j0 (by omega)
      unfold PcC at *
      rw [h25, h2 6 _ (by omega)]
      exact hp) (fun j j0 j1 => by
      unfold PcC at *
      rw [h25]
      by_cases hjk : j = k
      · subst hjk
        rw [h3 0 (by omega), h3 1 (by omega), h3 2 (by omega), h3 3 (by omega), h3 4 (by omega), h3 5 (by omega), h3 6 (by omega)]
        exact hPt j j0 (by omega)
      · have hne : ix (M 5 s j.toNat) ≠ ix (M 5 s k.toNat) := fun hh => hjk (hRs.2 j k j0 (by omega) k0 (by omega) hh)
        rw [h2 6 _ (by omega)]
        exact hPs j j0 (by omega))
    refine ⟨M3, ?_, fun c l a b => by rw [q2 c l a b, h2 c l (by omega)], q3.1, q3.2.1, ?_, ?_, ?_, ?_, ?_⟩
    · rw [← q1]
      clear hPt hPs
      simp (disch := omega) only [f_X5_copyFrom_21, hc, h1, ↓reduceIte, ↓nm_s, ↓lk_s, ↓pc_s, z_add, z_sub, z_mul, z_neg, z_le, z_lt, z_eq, z_ix, z_vin, z_rem, zc_0, zc_1, zc_2, zc_3, zc_4, zc_5, zc_6, zc_7, zc_8, zc_9, zc_10, zc_12, zc_20, zc_60, zc_80, zc_108, zc_120, zc_185, zc_192, zc_1344, zc_9999, zc_FAR, zc_NEV, ite_T, ite_F, bd_s, bd2_s, rz_z, toNat_cast, mR_at, mR_ne, mu_mR, il_t, il_f, ilt_t, ilt_f, ieq_t, ieq_f, nlt_t]
    · rw [q3.2.2.1, h2 1 t (by omega)]
    · rw [q3.2.2.2.1, h2 1 t (by omega)]
    · rw [q3.2.2.2.2.1, h2 1 t (by omega)]
    · rw [q3.2.2.2.2.2.1, h2 1 t (by omega)]
    · rw [q3.2.2.2.2.2.2, h2 1 t (by omega)]
theorem g_copySrv {p h : Int} {A : Int → Int} (hO : Ok p h A) {s t : Nat} (hst : s ≠ t) (hs : s ≤ 10) (ht : t ≤ 10) {M : Mem} (hRs : Rw M s) (hRt : Rw M t) (hC : Cl M t A) : ∃ M2, f_X5_copyFrom M s t = some M2 ∧ Did s M M2 A := by
  obtain ⟨M2, h1, h2, h3, h4, h5⟩ := g_copyNet hO hst hC
  obtain ⟨c0, c1, c2, c3, c4, c5, c6, c7, cl, cp⟩ := hC
  have h25 : ∀ l, M2 5 l = M 5 l := fun l => h2 5 l (by omega) (by omega)
  have h26 : ∀ l, M2 6 l = M 6 l := fun l => h2 6 l (by omega) (by omega)
  have h21 : ∀ l, M2 1 l = M 1 l := fun l => h2 1 l (by omega) (by omega)
  have o5 := hO.2.2.2.2.1
  have o6 := hO.2.2.2.2.2.1
  obtain ⟨M3, q1, q2, q3, q4, q5, q6, q7, q8, q9⟩ := g_copySrv_21 hO hst hs ht (A 2).toNat FU (mu M2 1 s 3 (iZ (A 2))) 0 (by omega) (by omega) (by unfold FU; omega) (mu_hit _ _ _ _ _) (Rw_mu (by omega) (Rw_rows (h25 s) hRs)) (Rw_mu (by omega) (Rw_rows (h25 t) hRt)) (fun j j0 j1 => by
    unfold PcC
    simp (disch := omega) only [mu_miss, h25, h26]
    exact cp j j0 j1) (fun j j0 j1 => by omega)
  have m2 : M3 2 s = M2 2 s := by rw [q2 2 s (by omega) (by omega), mu_ne _ _ _ (by omega)]
  have m4 : ∀ l, M3 4 l = M2 4 l := fun l => by rw [q2 4 l (by omega) (by omega), mu_ne _ _ _ (by omega)]
  have m5 : M3 5 s = M 5 s := by rw [q2 5 s (by omega) (by omega), mu_ne _ _ _ (by omega), h25]
  refine ⟨M3, ?_, ⟨by rw [m2]; exact h3, by rw [m2]; exact h4, q4, ?_, ?_, ?_, ?_, ?_, fun j j0 j1 => ?_, fun j j0 j1 => q3 j j0 j1⟩, Rw_rows m5 hRs, fun a i hn => ?_⟩
  · unfold f_X5_copyFrom
    rw [bdq h1, h21, c2, nm_s, zc_0]
    exact q1
  · rw [q6, mu_miss _ _ (by omega), h21, c3]
  · rw [q5, mu_miss _ _ (by omega), h21, c4]
  · rw [q7, mu_miss _ _ (by omega), h21, c5]
  · rw [q8, mu_miss _ _ (by omega), h21, c6]
  · rw [q9, mu_miss _ _ (by omega), h21, c7]
  · rw [m4]; exact h5 j j0 j1
  · unfold own at hn
    rw [q2 a i (by omega) (by omega), mu_ne _ _ _ (by omega), h2 a i (by omega) (by omega)]
