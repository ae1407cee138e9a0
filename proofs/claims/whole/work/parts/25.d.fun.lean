theorem g_giveBack {p h : Int} {M : Mem} {s : Nat} {A : Int → Int} (hO : Ok p h A) (hm : Rm p h) (hs : s ≤ 10) (hR : Rw M s) (hC : Cl M s A) {d : Int} (hd : i32 d) (hp : sPos A d ≠ -1) : ∃ M2, f_X5_giveBack M s (iZ d) = some (iZ (A (108 + 7 * sPos A d + 3)), M2) ∧ Did s M M2 (tRm A (sPos A d) 6) := by
  have hpo := g_positionOf hO hm hs hR hC hd
  have hpi := sPos_in hO d
  have o6 := hO.2.2.2.2.2.1
  obtain ⟨M2, h1, h2, h3, h4, h5, h6, h7⟩ := g_removeAt hR hs (k := sPos A d) (c := A 2) (by omega) (by omega) o6 hC.2.2.1
  have hr := hR.1 (sPos A d) (by omega) (by omega)
  have hst := (hC.2.2.2.2.2.2.2.2.2 (sPos A d) (by omega) (by omega)).2.2.1
  have h17 : M2 1 s 7 = iZ (A 6) := by rw [h6 7 (by omega)]; exact hC.2.2.2.2.2.2.1
  refine ⟨mu M2 1 s 7 (iZ (A 6 + 1)), ?_, g_removed hO hs hR hC (by omega) (by omega) (.inr ⟨rfl, rfl⟩) (fun b i a c _ => h4 b i a c) h5 h6 h7, Rw_mu (by omega) h2, h3.tr (FS.mu _ _ _ (by unfold own; omega))⟩
  simp (disch := omega) only [f_X5_giveBack, ↓bdq hpo, hst, h1, h17, ↓reduceIte, ↓nm_s, ↓lk_s, ↓pc_s, z_add, z_sub, z_mul, z_neg, z_le, z_lt, z_eq, z_ix, z_vin, z_rem, zc_0, zc_1, zc_2, zc_3, zc_4, zc_5, zc_6, zc_7, zc_8, zc_9, zc_10, zc_12, zc_20, zc_60, zc_80, zc_108, zc_120, zc_185, zc_192, zc_1344, zc_9999, zc_FAR, zc_NEV, ite_T, ite_F, bd_s, bd2_s, rz_z, toNat_cast, mR_at, mR_ne, mu_mR, il_t, il_f, ilt_t, ilt_f, ieq_t, ieq_f, nlt_t]
theorem hp_22 {p h : Int} (hm : Rm p h) {s : Nat} (hs : s ≤ 10) {bef : Int} : ∀ (n f : Nat) (M : Mem) (A : Int → Int) (k c : Int), Ok p h A → Rw M s → Cl M s A → 0 ≤ k → k + n = A 2 → n < f → A 5 = bef + c →
    ∃ M2, f_X5_letHourPass_22 f M s (iZ k) (iZ bef) (iZ n) = some (iZ (hL n A k c).2, M2) ∧ Did s M M2 (hL n A k c).1 := by
  intro n
  induction n with
  | zero =>
    intro f M A k c hO hR hC k0 hk hf hb
    obtain ⟨f, rfl⟩ : ∃ g, f = g + 1 := ⟨f - 1, by omega⟩
    have c5 := hC.2.2.2.2.2.1
    refine ⟨M, ?_, hC, hR, FS.refl _ _⟩
    simp (disch := omega) only [f_X5_letHourPass_22, c5, ↓reduceIte, ↓nm_s, ↓lk_s, ↓pc_s, z_add, z_sub, z_mul, z_neg, z_le, z_lt, z_eq, z_ix, z_vin, z_rem, zc_0, zc_1, zc_2, zc_3, zc_4, zc_5, zc_6, zc_7, zc_8, zc_9, zc_10, zc_12, zc_20, zc_60, zc_80, zc_108, zc_120, zc_185, zc_192, zc_1344, zc_9999, zc_FAR, zc_NEV, ite_T, ite_F, bd_s, bd2_s, rz_z, toNat_cast, mR_at, mR_ne, mu_mR, il_t, il_f, ilt_t, ilt_f, ieq_t, ieq_f, nlt_t]
    rw [show A 5 - bef = c by omega]
    rfl
  | succ n ih =>
    intro f M A k c hO hR hC k0 hk hf hb
    obtain ⟨f, rfl⟩ : ∃ g, f = g + 1 := ⟨f - 1, by omega⟩
    have ho := hO
    obtain ⟨o1, o2, o3, o4, o5, o6, o7, o8, o9, o10, o11, ol, ob, op, oc⟩ := ho
    have hc2 := hC
    obtain ⟨c0, c1, c2, c3, c4, c5, c6, c7, cl, cp⟩ := hc2
    have hpk := op k k0 (by omega)
    unfold pcl at hpk
    have hsa := sAt_in hO k0 (by omega : k < A 2)
    have hr := hR.1 k k0 (by omega)
    obtain ⟨p0, p1, p2, p3, p4, p5, p6⟩ := cp k k0 (by omega)
    have hm2 := hm
    unfold Rm at hm2
    have hsd : sAt A k = if A (108 + 7 * k + 4) = -1 then A (8 + 5 * A (108 + 7 * k + 5) + 1) else A (108 + 7 * k + 4) := rfl
    unfold hL
    by_cases h1 : A (108 + 7 * k + 4) = -1
    · have p6 := p6 h1
      rw [if_pos h1] at hsd
      by_cases h2 : A (108 + 7 * k + 6) = A 4
      · rw [if_pos ⟨h1, h2⟩]
        by_cases h3 : A (8 + 5 * A (108 + 7 * k + 5) + 1) = A (108 + 7 * k + 1)
        · rw [if_pos h3]
          obtain ⟨M2, r1, r2, r3, r4, r5, r6, r7⟩ := g_removeAt (M := mu M 6 (ix (M 5 s k.toNat)) 5 (iZ (-1))) (Rw_mu (by omega) hR) hs k0 (c := A 2) (by omega) o6 (by rw [mu_miss _ _ (by omega)]; exact c2)
          have h26 : M2 1 s 6 = iZ (A 5) := by rw [r6 6 (by omega), mu_miss _ _ (by omega)]; exact c5
          have hC3 : Cl (mu M2 1 s 6 (iZ (A 5 + 1))) s (tRm A k 5) := g_removed hO hs hR hC k0 (by omega) (.inl ⟨rfl, rfl⟩) (fun b i a c e => by rw [r4 b i a c, mu_ne _ _ _ e]) r5 (fun d hd => by rw [r6 d hd, mu_miss _ _ (by omega)]) (fun j j0 j1 => by rw [r7 j j0 j1, mu_miss _ _ (by omega)])
          obtain ⟨M3, q1, q2, q3, q4⟩ := ih f (mu M2 1 s 6 (iZ (A 5 + 1))) (tRm A k 5) k (c + 1) (hO.tRm (.inl rfl) k0 (by omega)) (Rw_mu (by omega) r2) hC3 k0 (by rw [tRm_2 A k (.inl rfl)]; omega) (by omega) (by unfold tRm; rw [uI_eq]; omega)
          refine ⟨M3, ?_, q2, q3, (((FS.mu M 5 (iZ (-1)) (show own s 6 (ix (M 5 s k.toNat)) by unfold own; omega)).tr r3).tr (FS.mu _ _ _ (by unfold own; omega))).tr q4⟩
          rw [← q1]
          have hpe : iZ (sAt A k) = iZ (A (108 + 7 * k + 1)) := by rw [hsd, h3]
          have e1 : 0 ≤ A (108 + 7 * k + 5) ∧ A (108 + 7 * k + 5) ≤ 20 := by omega
          have e2 : 0 ≤ A (108 + 7 * k + 1) ∧ A (108 + 7 * k + 1) ≤ 20 := by omega
          clear ol ob op oc hC cl cp hpk hC3
          simp (disch := omega) only [f_X5_letHourPass_22, f_X5_letHourPass_60, f_X5_letHourPass_81, f_X5_letHourPass_102, f_X3_isUnderWay, p3, p4, p5, p6, c4, hpe, r1, h26, mu_hit, mu_miss, ↓reduceIte, ↓nm_s, ↓lk_s, ↓pc_s, z_add, z_sub, z_mul, z_neg, z_le, z_lt, z_eq, z_ix, z_vin, z_rem, zc_0, zc_1, zc_2, zc_3, zc_4, zc_5, zc_6, zc_7, zc_8, zc_9, zc_10, zc_12, zc_20, zc_60, zc_80, zc_108, zc_120, zc_185, zc_192, zc_1344, zc_9999, zc_FAR, zc_NEV, ite_T, ite_F, bd_s, bd2_s, rz_z, toNat_cast, mR_at, mR_ne, mu_mR, il_t, il_f, ilt_t, ilt_f, ieq_t, ieq_f, nlt_t]
          rw [show ((n + 1 : Nat) : Int) + -1 = (n : Int) by omega]
        · rw [if_neg h3]
          have hC3 : Cl (mu M 6 (ix (M 5 s k.toNat)) 5 (iZ (-1))) s (tAr A k) := by
            refine ⟨?_, ?_, ?_, ?_, ?_, ?_, ?_, ?_, fun j j0 j1 => ?_, fun j j0 j1 => ?_⟩
            · unfold tAr; simp (disch := omega) only [mu_miss, uI_ne, c0]
            · unfold tAr; simp (disch := omega) only [mu_miss, uI_ne, c1]
            · unfold tAr; simp (disch := omega) only [mu_miss, uI_ne, c2]
            · unfold tAr; simp (disch := omega) only [mu_miss, uI_ne, c3]
            · unfold tAr; simp (disch := omega) only [mu_miss, uI_ne, c4]
            · unfold tAr; simp (disch := omega) only [mu_miss, uI_ne, c5]
            · unfold tAr; simp (disch := omega) only [mu_miss, uI_ne, c6]
            · unfold tAr; simp (disch := omega) only [mu_miss, uI_ne, c7]
            · unfold tAr at j1 ⊢
              simp (disch := omega) only [uI_ne] at j1
              have hk := cl j j0 j1
              clear ol ob op oc cl cp
              simp (disch := omega) only [mu_miss, uI_ne]
              exact hk
            · unfold tAr at j1 ⊢
              simp (disch := omega) only [uI_ne, uI_eq] at j1
              have hp := op j j0 (by omega)
              unfold pcl at hp
              have hq := cp j j0 (by omega)
              unfold sAt at hq ⊢
              have hx5 : A (108 + 7 * j + 5) < 20 := by omega
              by_cases hjk : j = k
              · subst hjk
                have hl9 := ol (A (108 + 7 * j + 5)) (by omega) (by omega)
                unfold lnk at hl9
                have hl8 : A (8 + 5 * A (108 + 7 * j + 5) + 1) ≠ -1 := by omega
                rw [if_pos h1] at hq
                clear ol ob op oc cl cp hp hl9
                simp (disch := omega) only [mu_hit, mu_miss, uI_ne, uI_eq, if_neg, true_and, and_true]
                exact ⟨hq.1, hq.2.1, hq.2.2.1, hq.2.2.2.1, hq.2.2.2.2.1, fun hh => absurd hh hl8⟩
              · have hne : ix (M 5 s j.toNat) ≠ ix (M 5 s k.toNat) := fun hh => hjk (hR.2 j k j0 (by omega) (by omega) (by omega) hh)
                clear ol ob op oc cl cp hp
                by_cases h4 : A (108 + 7 * j + 4) = -1
                · rw [if_pos h4] at hq
                  simp (disch := omega) only [mu_miss, uI_ne, if_pos]
                  exact hq
                · rw [if_neg h4] at hq
                  simp (disch := omega) only [mu_miss, uI_ne, if_neg]
                  exact hq
          obtain ⟨M3, q1, q2, q3, q4⟩ := ih f (mu M 6 (ix (M 5 s k.toNat)) 5 (iZ (-1))) (tAr A k) (k + 1) c (hO.tAr k0 (by omega) h1 h3) (Rw_mu (by omega) hR) hC3 (by omega) (by rw [tAr_2 A k0]; omega) (by omega) (by unfold tAr; simp (disch := omega) only [uI_ne]; exact hb)
          refine ⟨M3, ?_, q2, q3, (FS.mu M 5 (iZ (-1)) (show own s 6 (ix (M 5 s k.toNat)) by unfold own; omega)).tr q4⟩
          rw [← q1]
          have e1 : 0 ≤ A (108 + 7 * k + 5) ∧ A (108 + 7 * k + 5) ≤ 20 := by omega
          have e2 : 0 ≤ A (108 + 7 * k + 1) ∧ A (108 + 7 * k + 1) ≤ 20 := by omega
          have e3 : sAt A k ≠ A (108 + 7 * k + 1) := by rw [hsd]; exact h3
          clear ol ob op oc hC cl cp hpk hC3 hsd
          simp (disch := omega) only [f_X5_letHourPass_22, f_X5_letHourPass_60, f_X5_letHourPass_81, f_X5_letHourPass_102, f_X3_isUnderWay, p3, p4, p5, p6, c4, mu_hit, mu_miss, ↓reduceIte, ↓nm_s, ↓lk_s, ↓pc_s, z_add, z_sub, z_mul, z_neg, z_le, z_lt, z_eq, z_ix, z_vin, z_rem, zc_0, zc_1, zc_2, zc_3, zc_4, zc_5, zc_6, zc_7, zc_8, zc_9, zc_10, zc_12, zc_20, zc_60, zc_80, zc_108, zc_120, zc_185, zc_192, zc_1344, zc_9999, zc_FAR, zc_NEV, ite_T, ite_F, bd_s, bd2_s, rz_z, toNat_cast, mR_at, mR_ne, mu_mR, il_t, il_f, ilt_t, ilt_f, ieq_t, ieq_f, nlt_t]
          rw [show ((n + 1 : Nat) : Int) + -1 = (n : Int) by omega]
      · rw [if_neg (fun hc => h2 hc.2)]
        obtain ⟨M3, q1, q2⟩ := ih f M A (k + 1) c hO hR hC (by omega) (by omega) (by omega) hb
        refine ⟨M3, ?_, q2⟩
        rw [← q1]
        have e1 : 0 ≤ A (108 + 7 * k + 5) ∧ A (108 + 7 * k + 5) ≤ 20 := by omega
        have e2 : 0 ≤ A (108 + 7 * k + 6) ∧ A (108 + 7 * k + 6) ≤ 900000 := by omega
        clear ol ob op oc hC cl cp hpk hsd
        simp (disch := omega) only [f_X5_letHourPass_22, f_X5_letHourPass_60, f_X5_letHourPass_81, f_X5_letHourPass_102, f_X3_isUnderWay, p5, p6, c4, ↓reduceIte, ↓nm_s, ↓lk_s, ↓pc_s, z_add, z_sub, z_mul, z_neg, z_le, z_lt, z_eq, z_ix, z_vin, z_rem, zc_0, zc_1, zc_2, zc_3, zc_4, zc_5, zc_6, zc_7, zc_8, zc_9, zc_10, zc_12, zc_20, zc_60, zc_80, zc_108, zc_120, zc_185, zc_192, zc_1344, zc_9999, zc_FAR, zc_NEV, ite_T, ite_F, bd_s, bd2_s, rz_z, toNat_cast, mR_at, mR_ne, mu_mR, il_t, il_f, ilt_t, ilt_f, ieq_t, ieq_f, nlt_t]
        rw [show ((n + 1 : Nat) : Int) + -1 = (n : Int) by omega]
    · rw [if_neg (fun hc => h1 hc.1)]
      rw [if_neg h1] at hsd
      obtain ⟨M3, q1, q2⟩ := ih f M A (k + 1) c hO hR hC (by omega) (by omega) (by omega) hb
      refine ⟨M3, ?_, q2⟩
      rw [← q1]
      have e1 : A (108 + 7 * k + 5) = -1 := by omega
      have e2 : 0 ≤ A (108 + 7 * k + 1) ∧ A (108 + 7 * k + 1) ≤ 20 := by omega
      have e3 : sAt A k ≠ A (108 + 7 * k + 1) := by omega
      clear ol ob op oc hC cl cp hpk hsd
      simp (disch := omega) only [f_X5_letHourPass_22, f_X5_letHourPass_60, f_X5_letHourPass_81, f_X5_letHourPass_102, f_X3_isUnderWay, p3, p4, p5, e1, ↓reduceIte, ↓nm_s, ↓lk_s, ↓pc_s, z_add, z_sub, z_mul, z_neg, z_le, z_lt, z_eq, z_ix, z_vin, z_rem, zc_0, zc_1, zc_2, zc_3, zc_4, zc_5, zc_6, zc_7, zc_8, zc_9, zc_10, zc_12, zc_20, zc_60, zc_80, zc_108, zc_120, zc_185, zc_192, zc_1344, zc_9999, zc_FAR, zc_NEV, ite_T, ite_F, bd_s, bd2_s, rz_z, toNat_cast, mR_at, mR_ne, mu_mR, il_t, il_f, ilt_t, ilt_f, ieq_t, ieq_f, nlt_t]
      rw [show ((n + 1 : Nat) : Int) + -1 = (n : Int) by omega]
