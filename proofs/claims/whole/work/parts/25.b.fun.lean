theorem g_putStamps {p h : Int} {M : Mem} {s : Nat} {A : Int → Int} (hO : Ok p h A) (hR : Rw M s) (hC : Cl M s A) {k q : Int} (k0 : 0 ≤ k) (k1 : k < A 2) : ∃ M2, f_X5_putStamps M (some (ix (M 5 s k.toNat))) (iZ q) = some (iZ (A (108 + 7 * k + 3) + q), M2) ∧ Did s M M2 (tSt A k q) := by
  obtain ⟨c0, c1, c2, c3, c4, c5, c6, c7, cl, cp⟩ := hC
  obtain ⟨o1, o2, o3, o4, o5, o6, o7, o8, o9, o10, o11, ol, ob, op, oc⟩ := hO
  have hr := hR.1 k k0 (by omega)
  obtain ⟨p0, p1, p2, p3, p4, p5, p6⟩ := cp k k0 k1
  refine ⟨mu M 6 (ix (M 5 s k.toNat)) 2 (iZ (A (108 + 7 * k + 3) + q)), ?_, ⟨?_, ?_, ?_, ?_, ?_, ?_, ?_, ?_, fun j j0 j1 => ?_, fun j j0 j1 => ?_⟩, Rw_mu (by omega) hR, FS.mu _ _ _ (by unfold own; omega)⟩
  · unfold f_X5_putStamps on
    simp only [p2, mu_hit, ↓reduceIte, ↓nm_s, ↓lk_s, ↓pc_s, z_add, z_sub, z_mul, z_neg, z_le, z_lt, z_eq, z_ix, z_vin, z_rem, zc_0, zc_1, zc_2, zc_3, zc_4, zc_5, zc_6, zc_7, zc_8, zc_9, zc_10, zc_12, zc_20, zc_60, zc_80, zc_108, zc_120, zc_185, zc_192, zc_1344, zc_9999, zc_FAR, zc_NEV, ite_T, ite_F, bd_s, bd2_s, rz_z, toNat_cast, mR_at, mR_ne, mu_mR, il_t, il_f, ilt_t, ilt_f, ieq_t, ieq_f, nlt_t]
  · unfold tSt; simp (disch := omega) only [mu_miss, uI_ne, c0]
  · unfold tSt; simp (disch := omega) only [mu_miss, uI_ne, c1]
  · unfold tSt; simp (disch := omega) only [mu_miss, uI_ne, c2]
  · unfold tSt; simp (disch := omega) only [mu_miss, uI_ne, c3]
  · unfold tSt; simp (disch := omega) only [mu_miss, uI_ne, c4]
  · unfold tSt; simp (disch := omega) only [mu_miss, uI_ne, c5]
  · unfold tSt; simp (disch := omega) only [mu_miss, uI_ne, c6]
  · unfold tSt; simp (disch := omega) only [mu_miss, uI_ne, c7]
  · unfold tSt at j1 ⊢
    rw [uI_ne _ _ (by omega)] at j1
    have hk := cl j j0 j1
    simp (disch := omega) only [mu_miss, uI_ne]
    exact hk
  · unfold tSt at j1 ⊢
    rw [uI_ne _ _ (by omega)] at j1
    have hp := op j j0 j1
    unfold pcl at hp
    have hq := cp j j0 j1
    unfold sAt at hq ⊢
    have hx : 8 + 5 * A (108 + 7 * j + 5) + 1 < 108 ∨ A (108 + 7 * j + 4) ≠ -1 := by omega
    by_cases hjk : j = k
    · subst hjk
      clear ol ob op oc cl cp hp
      by_cases h4 : A (108 + 7 * j + 4) = -1
      · rw [if_pos h4] at hq
        simp (disch := omega) only [mu_hit, mu_miss, uI_ne, uI_eq, if_pos, true_and]
        exact ⟨hq.1, hq.2.1, hq.2.2.2⟩
      · rw [if_neg h4] at hq
        simp (disch := omega) only [mu_hit, mu_miss, uI_ne, uI_eq, if_neg, true_and]
        exact ⟨hq.1, hq.2.1, hq.2.2.2⟩
    · have hne : ix (M 5 s j.toNat) ≠ ix (M 5 s k.toNat) := fun hh => hjk (hR.2 j k j0 (by omega) k0 (by omega) hh)
      clear ol ob op oc cl cp hp
      by_cases h4 : A (108 + 7 * j + 4) = -1
      · rw [if_pos h4] at hq
        simp (disch := omega) only [mu_miss, uI_ne, if_pos]
        exact hq
      · rw [if_neg h4] at hq
        simp (disch := omega) only [mu_miss, uI_ne, if_neg]
        exact hq
theorem g_putParcel {p h : Int} {M : Mem} {s : Nat} {A : Int → Int} (hO : Ok p h A) (hR : Rw M s) (hs : s ≤ 10) (hC : Cl M s A) (h12 : A 2 < 12) {a b w q : Int} (a0 : 0 ≤ a) : ∃ M2, f_X5_putParcel M s (iZ a) (iZ b) (iZ w) (iZ q) = some (iZ (A 3), M2) ∧ Did s M M2 (tPo A a b w q) := by
  obtain ⟨c0, c1, c2, c3, c4, c5, c6, c7, cl, cp⟩ := hC
  obtain ⟨o1, o2, o3, o4, o5, o6, o7, o8, o9, o10, o11, ol, ob, op, oc⟩ := hO
  have hr := hR.1 (A 2) (by omega) (by omega)
  have hix : ix (M 1 s 3) = (A 2).toNat := by rw [c2, z_ix (by omega) (by omega)]
  generalize hrr : ix (M 5 s (A 2).toNat) = r at hr
  refine ⟨mu (mu (mu (mu (mu (mu (mu (mu (mu M 6 r 0 (iZ (A 3))) 6 r 1 (iZ w)) 6 r 2 (iZ q)) 6 r 3 (iZ b)) 6 r 4 (iZ a)) 6 r 5 (iZ (-1))) 6 r 6 (iZ (-1))) 1 s 3 (iZ (A 2 + 1))) 1 s 5 (iZ (A 3 + 1)), ?_, ⟨?_, ?_, ?_, ?_, ?_, ?_, ?_, ?_, fun j j0 j1 => ?_, fun j j0 j1 => ?_⟩, ?_, ?_⟩
  · clear ol ob op oc cl cp
    simp (disch := omega) only [f_X5_putParcel, c2, c3, hrr, mu_hit, mu_miss, ↓reduceIte, ↓nm_s, ↓lk_s, ↓pc_s, z_add, z_sub, z_mul, z_neg, z_le, z_lt, z_eq, z_ix, z_vin, z_rem, zc_0, zc_1, zc_2, zc_3, zc_4, zc_5, zc_6, zc_7, zc_8, zc_9, zc_10, zc_12, zc_20, zc_60, zc_80, zc_108, zc_120, zc_185, zc_192, zc_1344, zc_9999, zc_FAR, zc_NEV, ite_T, ite_F, bd_s, bd2_s, rz_z, toNat_cast, mR_at, mR_ne, mu_mR, il_t, il_f, ilt_t, ilt_f, ieq_t, ieq_f, nlt_t]
  · unfold tPo; simp (disch := omega) only [mu_miss, uI_ne, c0]
  · unfold tPo; simp (disch := omega) only [mu_miss, uI_ne, c1]
  · unfold tPo; simp (disch := omega) only [mu_hit, mu_miss, uI_ne, uI_eq]
  · unfold tPo; simp (disch := omega) only [mu_hit, mu_miss, uI_ne, uI_eq]
  · unfold tPo; simp (disch := omega) only [mu_miss, uI_ne, c4]
  · unfold tPo; simp (disch := omega) only [mu_miss, uI_ne, c5]
  · unfold tPo; simp (disch := omega) only [mu_miss, uI_ne, c6]
  · unfold tPo; simp (disch := omega) only [mu_miss, uI_ne, c7]
  · unfold tPo at j1 ⊢
    simp (disch := omega) only [uI_ne] at j1
    have hk := cl j j0 j1
    clear ol ob op oc cl cp
    simp (disch := omega) only [mu_miss, uI_ne]
    exact hk
  · unfold tPo at j1 ⊢
    simp (disch := omega) only [uI_ne, uI_eq] at j1
    by_cases hjk : j = A 2
    · subst hjk
      clear ol ob op oc cl cp
      unfold sAt
      simp (disch := omega) only [hrr, mu_hit, mu_miss, uI_ne, uI_eq, if_neg, true_and]
      intro hh
      omega
    · have hp := op j j0 (by omega)
      unfold pcl at hp
      have hq := cp j j0 (by omega)
      unfold sAt at hq ⊢
      have hx : 8 + 5 * A (108 + 7 * j + 5) + 1 < 108 ∨ A (108 + 7 * j + 4) ≠ -1 := by omega
      have hx5 : A (108 + 7 * j + 5) < 20 := by omega
      have hne : ix (M 5 s j.toNat) ≠ r := fun hh => hjk (hR.2 j (A 2) j0 (by omega) (by omega) (by omega) (by rw [hrr]; exact hh))
      clear ol ob op oc cl cp hp
      by_cases h4 : A (108 + 7 * j + 4) = -1
      · rw [if_pos h4] at hq
        simp (disch := omega) only [mu_miss, uI_ne, if_pos]
        exact hq
      · rw [if_neg h4] at hq
        simp (disch := omega) only [mu_miss, uI_ne, if_neg]
        exact hq
  · exact Rw_mu (by omega) (Rw_mu (by omega) (Rw_mu (by omega) (Rw_mu (by omega) (Rw_mu (by omega) (Rw_mu (by omega) (Rw_mu (by omega) (Rw_mu (by omega) (Rw_mu (by omega) hR))))))))
  · have ho : own s 6 r := by unfold own; omega
    have ho1 : own s 1 s := by unfold own; omega
    exact ((((((((FS.mu M _ _ ho).tr (FS.mu _ _ _ ho)).tr (FS.mu _ _ _ ho)).tr (FS.mu _ _ _ ho)).tr (FS.mu _ _ _ ho)).tr (FS.mu _ _ _ ho)).tr (FS.mu _ _ _ ho)).tr (FS.mu _ _ _ ho1)).tr (FS.mu _ _ _ ho1)
theorem g_sendOver {p h : Int} {M : Mem} {s : Nat} {A : Int → Int} (hO : Ok p h A) (hm : Rm p h) (hR : Rw M s) (hs : s ≤ 10) (hC : Cl M s A) {k l : Int} (k0 : 0 ≤ k) (k1 : k < A 2) (l0 : 0 ≤ l) (l1 : l < A 1) : ∃ M2, f_X5_sendOver M s (some (ix (M 5 s k.toNat))) (iZ l) = some (iZ (A 4 + A (8 + 5 * l + 2)), M2) ∧ Did s M M2 (tSe A k l) := by
  have o4' := hO.2.2.2.1
  have hhl := g_hasLink hO hC (a := l) (by unfold i32; omega)
  have hb1 : bI (0 ≤ l ∧ l < A 1) = 1 := if_pos ⟨l0, l1⟩
  rw [hb1] at hhl
  obtain ⟨c0, c1, c2, c3, c4, c5, c6, c7, cl, cp⟩ := hC
  obtain ⟨o1, o2, o3, o4, o5, o6, o7, o8, o9, o10, o11, ol, ob, op, oc⟩ := hO
  have hr := hR.1 k k0 (by omega)
  obtain ⟨p0, p1, p2, p3, p4, p5, p6⟩ := cp k k0 k1
  obtain ⟨q0, q1, q2, q3, q4⟩ := cl l l0 l1
  generalize hrr : ix (M 5 s k.toNat) = r at hr p0 p1 p2 p3 p4 p5 p6
  refine ⟨mu (mu (mu (mu (mu M 6 r 2 (iZ (A (108 + 7 * k + 3) - 1))) 1 s 8 (iZ (A 7 + 1))) 6 r 5 (iZ l)) 6 r 4 (iZ (A (8 + 5 * l + 1)))) 6 r 6 (iZ (A 4 + A (8 + 5 * l + 2))), ?_, ⟨?_, ?_, ?_, ?_, ?_, ?_, ?_, ?_, fun j j0 j1 => ?_, fun j j0 j1 => ?_⟩, ?_, ?_⟩
  · clear ol ob op oc cl cp
    unfold f_X5_sendOver on
    simp (disch := omega) only [↓bdq hhl, p2, c7, c4, q1, q2, mu_hit, mu_miss, ↓reduceIte, ↓nm_s, ↓lk_s, ↓pc_s, z_add, z_sub, z_mul, z_neg, z_le, z_lt, z_eq, z_ix, z_vin, z_rem, zc_0, zc_1, zc_2, zc_3, zc_4, zc_5, zc_6, zc_7, zc_8, zc_9, zc_10, zc_12, zc_20, zc_60, zc_80, zc_108, zc_120, zc_185, zc_192, zc_1344, zc_9999, zc_FAR, zc_NEV, ite_T, ite_F, bd_s, bd2_s, rz_z, toNat_cast, mR_at, mR_ne, mu_mR, il_t, il_f, ilt_t, ilt_f, ieq_t, ieq_f, nlt_t]
  · unfold tSe; simp (disch := omega) only [mu_miss, uI_ne, c0]
  · unfold tSe; simp (disch := omega) only [mu_miss, uI_ne, c1]
  · unfold tSe; simp (disch := omega) only [mu_miss, uI_ne, c2]
  · unfold tSe; simp (disch := omega) only [mu_miss, uI_ne, c3]
  · unfold tSe; simp (disch := omega) only [mu_miss, uI_ne, c4]
  · unfold tSe; simp (disch := omega) only [mu_miss, uI_ne, c5]
  · unfold tSe; simp (disch := omega) only [mu_miss, uI_ne, c6]
  · unfold tSe; simp (disch := omega) only [mu_hit, mu_miss, uI_ne, uI_eq]
  · unfold tSe at j1 ⊢
    simp (disch := omega) only [uI_ne] at j1
    have hk := cl j j0 j1
    clear ol ob op oc cl cp
    simp (disch := omega) only [mu_miss, uI_ne]
    exact hk
  · unfold tSe at j1 ⊢
    simp (disch := omega) only [uI_ne, uI_eq] at j1
    have hp := op j j0 (by omega)
    unfold pcl at hp
    have hq := cp j j0 (by omega)
    unfold sAt at hq ⊢
    have hx5 : A (108 + 7 * j + 5) < 20 := by omega
    by_cases hjk : j = k
    · subst hjk
      clear ol ob op oc cl cp hp
      simp (disch := omega) only [hrr, mu_hit, mu_miss, uI_ne, uI_eq, if_pos, true_and, and_true, forall_const]
      rw [hrr] at hq
      exact ⟨hq.1, hq.2.1, hq.2.2.2.1, congrArg iZ (if_pos trivial).symm⟩
    · have hne : ix (M 5 s j.toNat) ≠ r := fun hh => hjk (hR.2 j k j0 (by omega) (by omega) (by omega) (by rw [hrr]; exact hh))
      clear ol ob op oc cl cp hp
      by_cases h4 : A (108 + 7 * j + 4) = -1
      · rw [if_pos h4] at hq
        simp (disch := omega) only [mu_miss, uI_ne, if_pos]
        exact hq
      · rw [if_neg h4] at hq
        simp (disch := omega) only [mu_miss, uI_ne, if_neg]
        exact hq
  · exact Rw_mu (by omega) (Rw_mu (by omega) (Rw_mu (by omega) (Rw_mu (by omega) (Rw_mu (by omega) hR))))
  · have ho : own s 6 r := by unfold own; omega
    have ho1 : own s 1 s := by unfold own; omega
    exact ((((FS.mu M _ _ ho).tr (FS.mu _ _ _ ho1)).tr (FS.mu _ _ _ ho)).tr (FS.mu _ _ _ ho)).tr (FS.mu _ _ _ ho)
