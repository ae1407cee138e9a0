theorem g_letHourPass {p h : Int} {M : Mem} {s : Nat} {A : Int → Int} (hO : Ok p h A) (hm : Rm p (h + 1)) (hs : s ≤ 10) (hR : Rw M s) (hC : Cl M s A) : ∃ M2, f_X5_letHourPass M s = some (iZ (sHr A).2, M2) ∧ Did s M M2 (sHr A).1 := by
  have o5 := hO.2.2.2.2.1
  have hC2 : Cl (mu M 1 s 4 (iZ (A 4 + 1))) s (tHo A) := by
    obtain ⟨c0, c1, c2, c3, c4, c5, c6, c7, cl, cp⟩ := hC
    refine ⟨?_, ?_, ?_, ?_, ?_, ?_, ?_, ?_, fun j j0 j1 => ?_, fun j j0 j1 => ?_⟩
    · unfold tHo; simp (disch := omega) only [mu_miss, uI_ne, c0]
    · unfold tHo; simp (disch := omega) only [mu_miss, uI_ne, c1]
    · unfold tHo; simp (disch := omega) only [mu_miss, uI_ne, c2]
    · unfold tHo; simp (disch := omega) only [mu_miss, uI_ne, c3]
    · unfold tHo; simp (disch := omega) only [mu_hit, uI_eq]
    · unfold tHo; simp (disch := omega) only [mu_miss, uI_ne, c5]
    · unfold tHo; simp (disch := omega) only [mu_miss, uI_ne, c6]
    · unfold tHo; simp (disch := omega) only [mu_miss, uI_ne, c7]
    · unfold tHo at j1 ⊢
      rw [uI_ne _ _ (by omega)] at j1
      simp (disch := omega) only [mu_miss, uI_ne]
      exact cl j j0 j1
    · unfold tHo at j1 ⊢
      rw [uI_ne _ _ (by omega)] at j1
      have hp := hO.2.2.2.2.2.2.2.2.2.2.2.2.2.1 j j0 j1
      unfold pcl at hp
      have hq := cp j j0 j1
      unfold sAt at hq ⊢
      by_cases h4 : A (108 + 7 * j + 4) = -1
      · rw [if_pos h4] at hq
        simp (disch := omega) only [mu_miss, uI_ne, if_pos]
        exact hq
      · rw [if_neg h4] at hq
        simp (disch := omega) only [mu_miss, uI_ne, if_neg]
        exact hq
  have hR2 : Rw (mu M 1 s 4 (iZ (A 4 + 1))) s := Rw_mu (by omega) hR
  have o6 := hO.2.2.2.2.2.1
  obtain ⟨M2, h1, h2, h3, h4⟩ := hp_22 hm hs (bef := A 5) (A 2).toNat FU (mu M 1 s 4 (iZ (A 4 + 1))) (tHo A) 0 0 hO.tHo hR2 hC2 (by omega) (by rw [tHo_2]; omega) (by unfold FU; omega) (by unfold tHo; rw [uI_ne _ _ (by omega)]; omega)
  refine ⟨M2, ?_, h2, h3, (FS.mu M 4 (iZ (A 4 + 1)) (show own s 1 s by unfold own; omega)).tr h4⟩
  have c2 := hC.2.2.1
  have c4 := hC.2.2.2.2.1
  have c5 := hC.2.2.2.2.2.1
  unfold f_X5_letHourPass
  rw [nm_s, c4]
  simp (disch := omega) only [zc_0, zc_1, z_add, mu_miss, c5, c2]
  rw [show ((A 2).toNat : Int) = A 2 by omega] at h1
  exact h1
theorem g_letHoursPass_4 {p : Int} {s : Nat} (hs : s ≤ 10) {q : Int} (hi : i32 q) : ∀ (n f : Nat) (M : Mem) (h : Int) (A : Int → Int) (k c : Int), Ok p h A → Rm p (h + n) → Rw M s → Cl M s A → 0 ≤ k → k + n = q → n < f →
    ∃ M2, f_X5_letHoursPass_4 f M s (iZ q) (iZ c) (iZ k) = some (iZ (pL n A c).2, M2) ∧ Did s M M2 (pL n A c).1 := by
  unfold i32 at hi
  intro n
  induction n with
  | zero =>
    intro f M h A k c hO hm hR hC k0 hk hf
    obtain ⟨f, rfl⟩ : ∃ g, f = g + 1 := ⟨f - 1, by omega⟩
    refine ⟨M, ?_, hC, hR, FS.refl _ _⟩
    simp (disch := omega) only [f_X5_letHoursPass_4, ↓reduceIte, ↓nm_s, ↓lk_s, ↓pc_s, z_add, z_sub, z_mul, z_neg, z_le, z_lt, z_eq, z_ix, z_vin, z_rem, zc_0, zc_1, zc_2, zc_3, zc_4, zc_5, zc_6, zc_7, zc_8, zc_9, zc_10, zc_12, zc_20, zc_60, zc_80, zc_108, zc_120, zc_185, zc_192, zc_1344, zc_9999, zc_FAR, zc_NEV, ite_T, ite_F, bd_s, bd2_s, rz_z, toNat_cast, mR_at, mR_ne, mu_mR, il_t, il_f, ilt_t, ilt_f, ieq_t, ieq_f, nlt_t]
    rfl
  | succ n ih =>
    intro f M h A k c hO hm hR hC k0 hk hf
    obtain ⟨f, rfl⟩ : ∃ g, f = g + 1 := ⟨f - 1, by omega⟩
    have hm1 : Rm p (h + 1) := by unfold Rm at *; omega
    obtain ⟨M2, h1, h2, h3, h4⟩ := g_letHourPass hO hm1 hs hR hC
    obtain ⟨M3, q1, q2, q3, q4⟩ := ih f M2 (h + 1) (sHr A).1 (k + 1) (c + (sHr A).2) (Ok_sHr hO) (by unfold Rm at *; omega) h3 h2 (by omega) (by omega) (by omega)
    refine ⟨M3, ?_, q2, q3, h4.tr q4⟩
    show _ = some (iZ (pL n (sHr A).1 (c + (sHr A).2)).2, M3)
    rw [← q1]
    clear hC hO
    simp (disch := omega) only [f_X5_letHoursPass_4, h1, ↓reduceIte, ↓nm_s, ↓lk_s, ↓pc_s, z_add, z_sub, z_mul, z_neg, z_le, z_lt, z_eq, z_ix, z_vin, z_rem, zc_0, zc_1, zc_2, zc_3, zc_4, zc_5, zc_6, zc_7, zc_8, zc_9, zc_10, zc_12, zc_20, zc_60, zc_80, zc_108, zc_120, zc_185, zc_192, zc_1344, zc_9999, zc_FAR, zc_NEV, ite_T, ite_F, bd_s, bd2_s, rz_z, toNat_cast, mR_at, mR_ne, mu_mR, il_t, il_f, ilt_t, ilt_f, ieq_t, ieq_f, nlt_t]
theorem g_letHoursPass {p h : Int} {M : Mem} {s : Nat} {A : Int → Int} (hO : Ok p h A) (hm : Rm p (h + 120)) (hs : s ≤ 10) (hR : Rw M s) (hC : Cl M s A) {q : Int} (q0 : 1 ≤ q) (q1 : q ≤ 120) : ∃ M2, f_X5_letHoursPass M s (iZ q) = some (iZ (pL q.toNat A 0).2, M2) ∧ Did s M M2 (pL q.toNat A 0).1 := by
  obtain ⟨M2, h1, h2⟩ := g_letHoursPass_4 hs (by unfold i32; omega : i32 q) q.toNat FU M h A 0 0 hO (by unfold Rm at *; omega) hR hC (by omega) (by omega) (by unfold FU; omega)
  refine ⟨M2, ?_, h2⟩
  unfold f_X5_letHoursPass
  simp only [zc_0]
  exact h1
theorem g_sendAll_4 {p h : Int} (hm : Rm p h) {s : Nat} (hs : s ≤ 10) : ∀ (n f : Nat) (M : Mem) (A : Int → Int) (k c : Int), Ok p h A → Rw M s → Cl M s A → 0 ≤ k → k + n = A 2 → n < f →
    ∃ M2, f_X5_sendAllReady_4 f M s (iZ c) (iZ k) = some (iZ (dL n A k c).2, M2) ∧ Did s M M2 (dL n A k c).1 := by
  intro n
  induction n with
  | zero =>
    intro f M A k c hO hR hC k0 hk hf
    obtain ⟨f, rfl⟩ : ∃ g, f = g + 1 := ⟨f - 1, by omega⟩
    have c2 := hC.2.2.1
    have o6 := hO.2.2.2.2.2.1
    refine ⟨M, ?_, hC, hR, FS.refl _ _⟩
    simp (disch := omega) only [f_X5_sendAllReady_4, c2, ↓reduceIte, ↓nm_s, ↓lk_s, ↓pc_s, z_add, z_sub, z_mul, z_neg, z_le, z_lt, z_eq, z_ix, z_vin, z_rem, zc_0, zc_1, zc_2, zc_3, zc_4, zc_5, zc_6, zc_7, zc_8, zc_9, zc_10, zc_12, zc_20, zc_60, zc_80, zc_108, zc_120, zc_185, zc_192, zc_1344, zc_9999, zc_FAR, zc_NEV, ite_T, ite_F, bd_s, bd2_s, rz_z, toNat_cast, mR_at, mR_ne, mu_mR, il_t, il_f, ilt_t, ilt_f, ieq_t, ieq_f, nlt_t]
    rfl
  | succ n ih =>
    intro f M A k c hO hR hC k0 hk hf
    obtain ⟨f, rfl⟩ : ∃ g, f = g + 1 := ⟨f - 1, by omega⟩
    have c2 := hC.2.2.1
    have o4 := hO.2.2.2.1
    have o6 := hO.2.2.2.2.2.1
    have hr := hR.1 k k0 (by omega)
    obtain ⟨p0, p1, p2, p3, p4, p5, p6⟩ := hC.2.2.2.2.2.2.2.2.2 k k0 (by omega)
    have hp := hO.2.2.2.2.2.2.2.2.2.2.2.2.2.1 k k0 (by omega)
    unfold pcl at hp
    have e1 : A (108 + 7 * k + 4) = -1 ∧ 0 ≤ A (108 + 7 * k + 5) ∧ A (108 + 7 * k + 5) < 20 ∨ A (108 + 7 * k + 4) ≠ -1 ∧ A (108 + 7 * k + 5) = -1 := by omega
    have e2 : 0 ≤ A (108 + 7 * k + 3) ∧ A (108 + 7 * k + 3) ≤ 20 := by omega
    clear hp
    by_cases h1 : A (108 + 7 * k + 4) = -1
    · obtain ⟨M3, q1, q2⟩ := ih f M A (k + 1) c hO hR hC (by omega) (by omega) (by omega)
      refine ⟨M3, ?_, by rw [dL_f (fun hc => hc.1 h1)]; exact q2⟩
      rw [dL_f (fun hc => hc.1 h1), ← q1]
      clear hO hC
      simp (disch := omega) only [f_X5_sendAllReady_4, f_X5_sendAllReady_67, f_X3_isUnderWay, c2, p5, ↓reduceIte, ↓nm_s, ↓lk_s, ↓pc_s, z_add, z_sub, z_mul, z_neg, z_le, z_lt, z_eq, z_ix, z_vin, z_rem, zc_0, zc_1, zc_2, zc_3, zc_4, zc_5, zc_6, zc_7, zc_8, zc_9, zc_10, zc_12, zc_20, zc_60, zc_80, zc_108, zc_120, zc_185, zc_192, zc_1344, zc_9999, zc_FAR, zc_NEV, ite_T, ite_F, bd_s, bd2_s, rz_z, toNat_cast, mR_at, mR_ne, mu_mR, il_t, il_f, ilt_t, ilt_f, ieq_t, ieq_f, nlt_t]
    · by_cases h3 : 0 < A (108 + 7 * k + 3)
      · obtain ⟨D, S, hnx⟩ := g_nextLinkOf hO hm hR hC k0 (by omega : k < A 2) h1
        have hCw := Cl_mW D S hC
        have hRw : Rw (mW M D S) s := Rw_rows (mW_ne _ _ _ (by omega)) hR
        have hrow : ix (mW M D S 5 s k.toNat) = ix (M 5 s k.toNat) := by rw [mW_ne _ _ _ (by omega)]
        have hni := sNext_in hO k
        by_cases h2 : sNext A k = -1
        · obtain ⟨M3, q1, q2, q3, q4⟩ := ih f (mW M D S) A (k + 1) c hO hRw hCw (by omega) (by omega) (by omega)
          refine ⟨M3, ?_, by rw [dL_f (fun hc => hc.2.1 h2)]; exact ⟨q2, q3, (FS.mW s M D S).tr q4⟩⟩
          rw [dL_f (fun hc => hc.2.1 h2), ← q1]
          rw [h2] at hnx
          clear hO hC hCw
          simp (disch := omega) only [f_X5_sendAllReady_4, f_X5_sendAllReady_67, f_X3_isUnderWay, c2, p2, p5, hnx, ↓reduceIte, ↓nm_s, ↓lk_s, ↓pc_s, z_add, z_sub, z_mul, z_neg, z_le, z_lt, z_eq, z_ix, z_vin, z_rem, zc_0, zc_1, zc_2, zc_3, zc_4, zc_5, zc_6, zc_7, zc_8, zc_9, zc_10, zc_12, zc_20, zc_60, zc_80, zc_108, zc_120, zc_185, zc_192, zc_1344, zc_9999, zc_FAR, zc_NEV, ite_T, ite_F, bd_s, bd2_s, rz_z, toNat_cast, mR_at, mR_ne, mu_mR, il_t, il_f, ilt_t, ilt_f, ieq_t, ieq_f, nlt_t]
        · have hroom := g_hasRoom hO hm hs hRw hCw k0 (by omega : k < A 2) (l := sNext A k) (by omega) (by omega)
          rw [hrow] at hroom
          by_cases h4 : sLoad A (sNext A k) + A (108 + 7 * k + 2) ≤ 10
          · have hb1 : bI (sLoad A (sNext A k) + A (108 + 7 * k + 2) ≤ 10) = 1 := if_pos h4
            rw [hb1] at hroom
            have hnc : cNx A k (sNext A k) := by
              rcases hni with h | h
              · exact absurd h h2
              · exact h.2.2
            have hms : sMay A k (sNext A k) := ⟨h1, hnc.1.symm, h3, hnc.2.1, h4⟩
            obtain ⟨M2, s1, s2, s3, s4⟩ := g_sendOver hO hm hRw hs hCw k0 (by omega : k < A 2) (l := sNext A k) (by omega) (by omega)
            rw [hrow] at s1
            obtain ⟨M3, q1, q2, q3, q4⟩ := ih f M2 (tSe A k (sNext A k)) (k + 1) (c + 1) (hO.tSe k0 (by omega) (by omega) (by omega) hms) s3 s2 (by omega) (by rw [tSe_2 A k0]; omega) (by omega)
            refine ⟨M3, ?_, by rw [dL_t ⟨h1, h2, hms⟩]; exact ⟨q2, q3, ((FS.mW s M D S).tr s4).tr q4⟩⟩
            rw [dL_t ⟨h1, h2, hms⟩, ← q1]
            have hsr : -1 ≤ sNext A k ∧ sNext A k < 20 := by omega
            clear hO hC hCw
            simp (disch := omega) only [f_X5_sendAllReady_4, f_X5_sendAllReady_67, f_X3_isUnderWay, c2, p2, p5, hnx, hroom, s1, ↓reduceIte, ↓nm_s, ↓lk_s, ↓pc_s, z_add, z_sub, z_mul, z_neg, z_le, z_lt, z_eq, z_ix, z_vin, z_rem, zc_0, zc_1, zc_2, zc_3, zc_4, zc_5, zc_6, zc_7, zc_8, zc_9, zc_10, zc_12, zc_20, zc_60, zc_80, zc_108, zc_120, zc_185, zc_192, zc_1344, zc_9999, zc_FAR, zc_NEV, ite_T, ite_F, bd_s, bd2_s, rz_z, toNat_cast, mR_at, mR_ne, mu_mR, il_t, il_f, ilt_t, ilt_f, ieq_t, ieq_f, nlt_t]
          · have hb1 : bI (sLoad A (sNext A k) + A (108 + 7 * k + 2) ≤ 10) = 0 := if_neg h4
            rw [hb1] at hroom
            obtain ⟨M3, q1, q2, q3, q4⟩ := ih f (mW M D S) A (k + 1) c hO hRw hCw (by omega) (by omega) (by omega)
            refine ⟨M3, ?_, by rw [dL_f (fun hc => h4 hc.2.2.2.2.2.2)]; exact ⟨q2, q3, (FS.mW s M D S).tr q4⟩⟩
            rw [dL_f (fun hc => h4 hc.2.2.2.2.2.2), ← q1]
            have hsr : -1 ≤ sNext A k ∧ sNext A k < 20 := by omega
            clear hO hC hCw
            simp (disch := omega) only [f_X5_sendAllReady_4, f_X5_sendAllReady_67, f_X3_isUnderWay, c2, p2, p5, hnx, hroom, ↓reduceIte, ↓nm_s, ↓lk_s, ↓pc_s, z_add, z_sub, z_mul, z_neg, z_le, z_lt, z_eq, z_ix, z_vin, z_rem, zc_0, zc_1, zc_2, zc_3, zc_4, zc_5, zc_6, zc_7, zc_8, zc_9, zc_10, zc_12, zc_20, zc_60, zc_80, zc_108, zc_120, zc_185, zc_192, zc_1344, zc_9999, zc_FAR, zc_NEV, ite_T, ite_F, bd_s, bd2_s, rz_z, toNat_cast, mR_at, mR_ne, mu_mR, il_t, il_f, ilt_t, ilt_f, ieq_t, ieq_f, nlt_t]
      · obtain ⟨M3, q1, q2⟩ := ih f M A (k + 1) c hO hR hC (by omega) (by omega) (by omega)
        refine ⟨M3, ?_, by rw [dL_f (fun hc => h3 hc.2.2.2.2.1)]; exact q2⟩
        rw [dL_f (fun hc => h3 hc.2.2.2.2.1), ← q1]
        clear hO hC
        simp (disch := omega) only [f_X5_sendAllReady_4, f_X5_sendAllReady_67, f_X3_isUnderWay, c2, p2, p5, ↓reduceIte, ↓nm_s, ↓lk_s, ↓pc_s, z_add, z_sub, z_mul, z_neg, z_le, z_lt, z_eq, z_ix, z_vin, z_rem, zc_0, zc_1, zc_2, zc_3, zc_4, zc_5, zc_6, zc_7, zc_8, zc_9, zc_10, zc_12, zc_20, zc_60, zc_80, zc_108, zc_120, zc_185, zc_192, zc_1344, zc_9999, zc_FAR, zc_NEV, ite_T, ite_F, bd_s, bd2_s, rz_z, toNat_cast, mR_at, mR_ne, mu_mR, il_t, il_f, ilt_t, ilt_f, ieq_t, ieq_f, nlt_t]
theorem g_sendAll {p h : Int} {M : Mem} {s : Nat} {A : Int → Int} (hO : Ok p h A) (hm : Rm p h) (hs : s ≤ 10) (hR : Rw M s) (hC : Cl M s A) : ∃ M2, f_X5_sendAllReady M s = some (iZ (sDi A).2, M2) ∧ Did s M M2 (sDi A).1 := by
  have o5 := hO.2.2.2.2.1
  have o6 := hO.2.2.2.2.2.1
  obtain ⟨M2, h1, h2⟩ := g_sendAll_4 hm hs (A 2).toNat FU M A 0 0 hO hR hC (by omega) (by omega) (by unfold FU; omega)
  refine ⟨M2, ?_, h2⟩
  unfold f_X5_sendAllReady
  simp only [zc_0]
  exact h1
