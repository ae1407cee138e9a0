theorem g_copyNet {p h : Int} {A : Int → Int} (hO : Ok p h A) {s t : Nat} (hst : s ≠ t) {M : Mem} (hC : Cl M t A) :
    ∃ M2, f_X2_copyFrom M s t = some M2 ∧ (∀ c l, ¬ (c = 4 ∧ 20 * s ≤ l ∧ l < 20 * s + 20) → ¬ (c = 2 ∧ l = s) → M2 c l = M c l) ∧ M2 2 s 1 = iZ (A 0) ∧ M2 2 s 2 = iZ (A 1) ∧ ∀ j : Int, 0 ≤ j → j < A 1 → M2 4 (20 * s + j.toNat) 0 = iZ (A (8 + 5 * j)) ∧ M2 4 (20 * s + j.toNat) 1 = iZ (A (8 + 5 * j + 1)) ∧ M2 4 (20 * s + j.toNat) 2 = iZ (A (8 + 5 * j + 2)) ∧ M2 4 (20 * s + j.toNat) 3 = iZ (A (8 + 5 * j + 3)) ∧ M2 4 (20 * s + j.toNat) 4 = iZ (A (8 + 5 * j + 4)) := by
  have o3 := hO.2.2.1
  have o4 := hO.2.2.2.1
  obtain ⟨c0, c1, c2, c3, c4, c5, c6, c7, cl, cp⟩ := hC
  obtain ⟨M2, h1, h2, h3⟩ := g_copyNet_18 hO hst (A 1).toNat FU (mu (mu M 2 s 1 (iZ (A 0))) 2 s 2 (iZ (A 1))) 0 (by omega) (by omega) (by unfold FU; omega) (mu_hit _ _ _ _ _) (fun j j0 j1 => by
    simp (disch := omega) only [mu_miss]
    exact cl j j0 j1) (fun j j0 j1 => by omega)
  refine ⟨M2, ?_, fun c l a b => by rw [h2 c l a, mu_ne _ _ _ b, mu_ne _ _ _ b], ?_, ?_, h3⟩
  · rw [← h1]
    simp (disch := omega) only [f_X2_copyFrom, c0, c1, mu_miss, ↓nm_s, zc_0]
  · rw [h2 2 s (by omega), mu_miss _ _ (by omega), mu_hit]
  · rw [h2 2 s (by omega), mu_hit]
theorem g_copyParcel {M : Mem} {i j : Nat} (h : i ≠ j) : ∃ M2, f_X3_copyFrom M i j = some M2 ∧ (∀ c l, ¬ (c = 6 ∧ l = i) → M2 c l = M c l) ∧ ∀ d, d < 7 → M2 6 i d = M 6 j d := by
  refine ⟨mu (mu (mu (mu (mu (mu (mu M 6 i 0 (M 6 j 0)) 6 i 1 (M 6 j 1)) 6 i 2 (M 6 j 2)) 6 i 3 (M 6 j 3)) 6 i 4 (M 6 j 4)) 6 i 5 (M 6 j 5)) 6 i 6 (M 6 j 6), ?_, fun c l hc => ?_, fun d hd => ?_⟩
  · simp (disch := omega) only [f_X3_copyFrom, mu_miss, ↓nm_s]
  · rw [mu_ne _ _ _ hc, mu_ne _ _ _ hc, mu_ne _ _ _ hc, mu_ne _ _ _ hc, mu_ne _ _ _ hc, mu_ne _ _ _ hc, mu_ne _ _ _ hc]
  · obtain rfl | rfl | rfl | rfl | rfl | rfl | rfl : d = 0 ∨ d = 1 ∨ d = 2 ∨ d = 3 ∨ d = 4 ∨ d = 5 ∨ d = 6 := by omega
    all_goals simp (disch := omega) only [mu_hit, mu_miss]
