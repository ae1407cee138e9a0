/-! Copies of services. -/
theorem g_copyLink {M : Mem} {i j : Nat} {a b w q v : Int} (h : i ≠ j) (h0 : M 4 j 0 = iZ a) (h1 : M 4 j 1 = iZ b) (h2 : M 4 j 2 = iZ w) (h3 : M 4 j 3 = iZ q) (h4 : M 4 j 4 = iZ v) (v0 : 0 ≤ v) (v1 : v ≤ 1) :
    ∃ M2, f_X1_copyFrom M i j = some M2 ∧ (∀ c l, ¬ (c = 4 ∧ l = i) → M2 c l = M c l) ∧ M2 4 i 0 = iZ a ∧ M2 4 i 1 = iZ b ∧ M2 4 i 2 = iZ w ∧ M2 4 i 3 = iZ q ∧ M2 4 i 4 = iZ v := by
  have hib : isB (iZ v) = True := eq_true (by
    obtain rfl | rfl : v = 0 ∨ v = 1 := by omega
    · exact .inl rfl
    · exact .inr rfl)
  refine ⟨mu (mu (mu (mu (mu M 4 i 0 (iZ a)) 4 i 1 (iZ b)) 4 i 2 (iZ w)) 4 i 3 (iZ q)) 4 i 4 (iZ v), ?_, fun c l hc => ?_, ?_, ?_, ?_, ?_, ?_⟩
  · simp (disch := omega) only [f_X1_copyFrom, h0, h1, h2, h3, h4, hib, mu_miss, ↓nm_s, ↓reduceIte]
  · rw [mu_ne _ _ _ hc, mu_ne _ _ _ hc, mu_ne _ _ _ hc, mu_ne _ _ _ hc, mu_ne _ _ _ hc]
  all_goals simp (disch := omega) only [mu_hit, mu_miss]
theorem g_copyNet_18 {p h : Int} {A : Int → Int} (hO : Ok p h A) {s t : Nat} (hst : s ≠ t) : ∀ (n f : Nat) (M : Mem) (k : Int), 0 ≤ k → k + n = A 1 → n < f → M 2 s 2 = iZ (A 1) → (∀ j : Int, 0 ≤ j → j < A 1 → M 4 (20 * t + j.toNat) 0 = iZ (A (8 + 5 * j)) ∧ M 4 (20 * t + j.toNat) 1 = iZ (A (8 + 5 * j + 1)) ∧ M 4 (20 * t + j.toNat) 2 = iZ (A (8 + 5 * j + 2)) ∧ M 4 (20 * t + j.toNat) 3 = iZ (A (8 + 5 * j + 3)) ∧ M 4 (20 * t + j.toNat) 4 = iZ (A (8 + 5 * j + 4))) →
    (∀ j : Int, 0 ≤ j → j < k → M 4 (20 * s + j.toNat) 0 = iZ (A (8 + 5 * j)) ∧ M 4 (20 * s + j.toNat) 1 = iZ (A (8 + 5 * j + 1)) ∧ M 4 (20 * s + j.toNat) 2 = iZ (A (8 + 5 * j + 2)) ∧ M 4 (20 * s + j.toNat) 3 = iZ (A (8 + 5 * j + 3)) ∧ M 4 (20 * s + j.toNat) 4 = iZ (A (8 + 5 * j + 4))) →
    ∃ M2, f_X2_copyFrom_18 f M s t (iZ k) = some M2 ∧ (∀ c l, ¬ (c = 4 ∧ 20 * s ≤ l ∧ l < 20 * s + 20) → M2 c l = M c l) ∧ ∀ j : Int, 0 ≤ j → j < A 1 → M2 4 (20 * s + j.toNat) 0 = iZ (A (8 + 5 * j)) ∧ M2 4 (20 * s + j.toNat) 1 = iZ (A (8 + 5 * j + 1)) ∧ M2 4 (20 * s + j.toNat) 2 = iZ (A (8 + 5 * j + 2)) ∧ M2 4 (20 * s + j.toNat) 3 = iZ (A (8 + 5 * j + 3)) ∧ M2 4 (20 * s + j.toNat) 4 = iZ (A (8 + 5 * j + 4)) := by
  have o3 := hO.2.2.1
  have o4 := hO.2.2.2.1
  have ol := hO.2.2.2.2.2.2.2.2.2.2.2.1
  clear hO
  intro n
  induction n with
  | zero =>
    intro f M k k0 hk hf hc ht hs
    obtain ⟨f, rfl⟩ : ∃ g, f = g + 1 := ⟨f - 1, by omega⟩
    refine ⟨M, ?_, fun _ _ _ => rfl, fun j j0 j1 => hs j j0 (by omega)⟩
    clear ol ht hs
    simp (disch := omega) only [f_X2_copyFrom_18, hc, ↓reduceIte, ↓nm_s, ↓lk_s, ↓pc_s, z_add, z_sub, z_mul, z_neg, z_le, z_lt, z_eq, z_ix, z_vin, z_rem, zc_0, zc_1, zc_2, zc_3, zc_4, zc_5, zc_6, zc_7, zc_8, zc_9, zc_10, zc_12, zc_20, zc_60, zc_80, zc_108, zc_120, zc_185, zc_192, zc_1344, zc_9999, zc_FAR, zc_NEV, ite_T, ite_F, bd_s, bd2_s, rz_z, toNat_cast, mR_at, mR_ne, mu_mR, il_t, il_f, ilt_t, ilt_f, ieq_t, ieq_f, nlt_t]
  | succ n ih =>
    intro f M k k0 hk hf hc ht hs
    obtain ⟨f, rfl⟩ : ∃ g, f = g + 1 := ⟨f - 1, by omega⟩
    have hl := ol k k0 (by omega)
    unfold lnk at hl
    obtain ⟨t0, t1, t2, t3, t4⟩ := ht k k0 (by omega)
    obtain ⟨M2, h1, h2, h3⟩ := g_copyLink (i := 20 * s + k.toNat) (by omega) t0 t1 t2 t3 t4 (by omega) (by omega)
    obtain ⟨M3, q1, q2, q3⟩ := ih f M2 (k + 1) (by omega) (by omega) (by omega) (by rw [h2 2 s (by omega)]; exact hc) (fun j j0 j1 => by rw [h2 4 (20 * t + j.toNat) (by omega)]; exact ht j j0 j1) (fun j j0 j1 => by
      by_cases hjk : j = k
      · subst hjk; exact h3
      · rw [h2 4 (20 * s + j.toNat) (by omega)]; exact hs j j0 (by omega))
    refine ⟨M3, ?_, fun c l hn => by rw [q2 c l hn, h2 c l (by omega)], q3⟩
    rw [← q1]
    clear ol ht hs hl
    simp (disch := omega) only [f_X2_copyFrom_18, hc, h1, ↓reduceIte, ↓nm_s, ↓lk_s, ↓pc_s, z_add, z_sub, z_mul, z_neg, z_le, z_lt, z_eq, z_ix, z_vin, z_rem, zc_0, zc_1, zc_2, zc_3, zc_4, zc_5, zc_6, zc_7, zc_8, zc_9, zc_10, zc_12, zc_20, zc_60, zc_80, zc_108, zc_120, zc_185, zc_192, zc_1344, zc_9999, zc_FAR, zc_NEV, ite_T, ite_F, bd_s, bd2_s, rz_z, toNat_cast, mR_at, mR_ne, mu_mR, il_t, il_f, ilt_t, ilt_f, ieq_t, ieq_f, nlt_t]
