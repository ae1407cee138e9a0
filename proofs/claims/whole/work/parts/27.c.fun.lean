/-! A change, on the reference's side. -/
theorem g_opDone {M : Mem} {A A2 S : Int → Int} {Bf : Int → Int → Int} {c v : Int} (hL : Lr M A S Bf c v) (c0 : 0 ≤ c) (c1 : c ≤ 8) {It : Mem → Option (Int32 × Mem)} {x : Int32}
    (hI : ∀ M1 : Mem, M1 21 0 = rz A → ∃ M2, It M1 = some (x, M2) ∧ M2 21 0 = rz A2 ∧ ∀ a i k, a ≠ 21 → a ≠ 27 → M2 a i k = M1 a i k) :
    ∃ M2, (bd (f_X8_starts M) fun M11 => bd2 (It M11) fun r15 M14 => bd2 (f_X8_changed M14 r15) fun r18 M17 => some (r18, M17)) = some (x, M2) ∧ M2 20 0 9 = iZ 0 ∧ Lr M2 A2 S (hB A Bf c) (c8 c) v ∧
      ∀ a i k, a ≠ 21 → a ≠ 22 → a ≠ 25 → a ≠ 27 → ¬ (a = 20 ∧ i = 0 ∧ (k = 6 ∨ k = 9)) → M2 a i k = M a i k := by
  obtain ⟨l1, l2, ⟨B, l3, l3'⟩, l4, l5⟩ := hL
  obtain ⟨C, q1, q2⟩ := g_starts l1
  have e1 : ∀ a i k, a ≠ 22 → ¬ (a = 20 ∧ i = 0 ∧ k = 9) → mR (mT M 0) 22 0 C a i k = M a i k := fun a i k h1 h2 => by
    rw [mR_ne _ _ (by omega)]; unfold mT; rw [mu_miss _ _ h2]
  obtain ⟨M2, p1, p2, p3⟩ := hI (mR (mT M 0) 22 0 C) (by funext k; rw [e1 21 0 k (by omega) (by omega), l1])
  have e2 : ∀ a i k, a ≠ 21 → a ≠ 22 → a ≠ 27 → ¬ (a = 20 ∧ i = 0 ∧ k = 9) → M2 a i k = M a i k := fun a i k h1 h2 h3 h4 => by
    rw [p3 a i k h1 h3, e1 a i k h2 h4]
  have e9 : M2 20 0 9 = iZ 0 := by
    rw [p3 20 0 9 (by omega) (by omega), mR_ne _ _ (by omega)]; exact mu_hit _ _ _ _ _
  have e22 : M2 22 0 = rz C := by
    funext k; rw [p3 22 0 k (by omega) (by omega), mR_at]
  obtain ⟨M3, B3, c3, s1, s2, s3, s4, s5, s6, s7⟩ := g_changed x e9 (by funext k; rw [e2 25 0 k (by omega) (by omega) (by omega) (by omega), l3]) e22 (by rw [e2 20 0 6 (by omega) (by omega) (by omega) (by omega)]; exact l4) c0 c1
  have hc3 : c3 = c8 c := s5
  refine ⟨M3, ?_, ?_, ⟨?_, ?_, ⟨B3, s3, fun i i0 i1 j j0 j1 => ?_⟩, ?_, ?_⟩, fun a i k h1 h2 h3 h4 h5 => ?_⟩
  · rw [bdq q1, p1, bd2_s, s1, bd2_s]
  · rw [s2 20 0 9 (by omega) (by omega)]; exact e9
  · funext k; rw [s2 21 0 k (by omega) (by omega), p2]
  · funext k; rw [s2 24 0 k (by omega) (by omega), e2 24 0 k (by omega) (by omega) (by omega) (by omega), l2]
  · rw [← hc3] at i1
    unfold hB
    by_cases hc : c = 8
    · rw [if_pos hc] at s5
      rw [if_pos hc]
      by_cases hi : i = 7
      · rw [if_pos hi, show i = c3 - 1 by omega, s6 j j0 j1, q2 j j0 j1]
      · rw [if_neg hi, s7 i j i0 (by omega) j0 j1, if_pos hc]
        exact l3' (i + 1) (by omega) (by omega) j j0 j1
    · rw [if_neg hc] at s5
      rw [if_neg hc]
      by_cases hi : i = c
      · rw [if_pos hi, show i = c3 - 1 by omega, s6 j j0 j1, q2 j j0 j1]
      · rw [if_neg hi, s7 i j i0 (by omega) j0 j1, if_neg hc]
        exact l3' i (by omega) (by omega) j j0 j1
  · rw [← hc3]; exact s4
  · rw [s2 20 0 4 (by omega) (by omega), e2 20 0 4 (by omega) (by omega) (by omega) (by omega)]; exact l5
  · rw [s2 a i k (by omega) (by omega), e2 a i k h1 h2 h4 (by omega)]
theorem g_opNot {M : Mem} {A S : Int → Int} {Bf : Int → Int → Int} {c v : Int} (hL : Lr M A S Bf c v) {It : Mem → Option (Int32 × Mem)} {t : Int} (t0 : 1 ≤ t) (t1 : t ≤ 9)
    (hI : ∀ M1 : Mem, M1 21 0 = rz A → It M1 = some (iZ (-1), mT M1 t)) :
    ∃ M2, (bd (f_X8_starts M) fun M11 => bd2 (It M11) fun r15 M14 => bd2 (f_X8_changed M14 r15) fun r18 M17 => some (r18, M17)) = some (iZ (-1), M2) ∧ M2 20 0 9 = iZ t ∧ Lr M2 A S Bf c v ∧
      ∀ a i k, a ≠ 22 → ¬ (a = 20 ∧ i = 0 ∧ k = 9) → M2 a i k = M a i k := by
  obtain ⟨l1, l2, ⟨B, l3, l3'⟩, l4, l5⟩ := hL
  obtain ⟨C, q1, q2⟩ := g_starts l1
  have e1 : ∀ a i k, a ≠ 22 → ¬ (a = 20 ∧ i = 0 ∧ k = 9) → mR (mT M 0) 22 0 C a i k = M a i k := fun a i k h1 h2 => by
    rw [mR_ne _ _ (by omega)]; unfold mT; rw [mu_miss _ _ h2]
  have p1 := hI (mR (mT M 0) 22 0 C) (by funext k; rw [e1 21 0 k (by omega) (by omega), l1])
  have e2 : ∀ a i k, a ≠ 22 → ¬ (a = 20 ∧ i = 0 ∧ k = 9) → mT (mR (mT M 0) 22 0 C) t a i k = M a i k := fun a i k h1 h2 => by
    rw [show mT (mR (mT M 0) 22 0 C) t a i k = mR (mT M 0) 22 0 C a i k from mu_miss _ _ h2, e1 a i k h1 h2]
  have e9 : mT (mR (mT M 0) 22 0 C) t 20 0 9 = iZ t := mu_hit _ _ _ _ _
  refine ⟨_, ?_, e9, Lr.of (fun a i k h => e2 a i k (by omega) (by omega)) ⟨l1, l2, ⟨B, l3, l3'⟩, l4, l5⟩, e2⟩
  rw [bdq q1, p1, bd2_s, g_unchanged _ e9 t0 t1, bd2_s]
