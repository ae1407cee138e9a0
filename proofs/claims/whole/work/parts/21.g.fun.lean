def wT (A : Int → Int) (k t : Int) : Int := if t % 6 = A (8 + 5 * k + 3) then 1 else 0
/-- all hours before T are done -/
def Hh (A : Int → Int) (T : Int) (D : Int → Int) : Prop := ∀ k, 0 ≤ k → k < A 1 → uA A k → D (sA A k) < 2147483647 → D (sA A k) + wT A k (D (sA A k)) < T → D (dA A k) ≤ gT A k (D (sA A k))
theorem gT_w (A : Int → Int) (k t : Int) : gT A k t = t + wT A k t + A (8 + 5 * k + 2) := rfl
set_option maxHeartbeats 4000000 in
theorem st_all {M : Mem} {A D S : Int → Int} {s : Nat} (hC : Cl M s A) {i a d w q b x y T : Int} (f : Nat) (i0 : 0 ≤ i) (i1 : i < A 1) (i2 : A 1 ≤ 20) (hs : A (8 + 5 * i) = a) (hd : A (8 + 5 * i + 1) = d) (hw : A (8 + 5 * i + 2) = w) (hq : A (8 + 5 * i + 3) = q) (hb : A (8 + 5 * i + 4) = b) (s0 : 0 ≤ a) (s1 : a < 9) (d0 : 0 ≤ d) (d1 : d < 9) (w0 : 1 ≤ w) (w1 : w ≤ 9) (b0 : 0 ≤ b) (b1 : b ≤ 1) (q0 : 0 ≤ q) (q1 : q ≤ 5)
    (hx : D a = x) (hy : D d = y) (x0 : 0 ≤ x) (x1 : x ≤ 2147483647) (y0 : 0 ≤ y) (y1 : y ≤ 2147483647) (T0 : 0 ≤ T) (T1 : T ≤ 1000000) :
    f_X6_leaveAllAt_2 (f + 1) (mW M D S) s (iZ T) (iZ i) = if x ≤ T ∧ b = 0 ∧ T % 6 ≠ q ∧ T + w < y then f_X6_leaveAllAt_2 f (mW M (uI D d (T + w)) S) s (iZ T) (iZ (i + 1)) else f_X6_leaveAllAt_2 f (mW M D S) s (iZ T) (iZ (i + 1)) := by
  obtain ⟨c0, c1, c2, c3, c4, c5, c6, c7, cl, cp⟩ := hC
  obtain ⟨l0, l1, l2, l3, l4⟩ := cl i i0 i1
  rw [hs] at l0
  rw [hd] at l1
  rw [hw] at l2
  rw [hq] at l3
  rw [hb] at l4
  have hself : uI D d y = D := by rw [← hy]; exact uI_self D d
  by_cases ha : x ≤ T
  · by_cases hb1 : b = 0
    · by_cases hph : T % 6 = q
      · rw [if_neg (fun hc => hc.2.2.1 hph)]
        simp (disch := omega) only [f_X6_leaveAllAt_2, f_X6_leaveAllAt_71, f_X1_canLeaveAt, mW_ne, mW_8, mu_mW8, c1, l0, l1, l2, l3, l4, hx, hy, hself, ↓reduceIte, ↓nm_s, ↓lk_s, ↓pc_s, z_add, z_sub, z_mul, z_neg, z_le, z_lt, z_eq, z_ix, z_vin, z_rem, zc_0, zc_1, zc_2, zc_3, zc_4, zc_5, zc_6, zc_7, zc_8, zc_9, zc_10, zc_12, zc_20, zc_60, zc_80, zc_108, zc_120, zc_185, zc_192, zc_1344, zc_9999, zc_FAR, zc_NEV, ite_T, ite_F, bd_s, bd2_s, rz_z, toNat_cast, mR_at, mR_ne, mu_mR, il_t, il_f, ilt_t, ilt_f, ieq_t, ieq_f, nlt_t]
      · by_cases ht : T + w < y
        · rw [if_pos ⟨ha, hb1, hph, ht⟩]
          simp (disch := omega) only [f_X6_leaveAllAt_2, f_X6_leaveAllAt_71, f_X1_canLeaveAt, mW_ne, mW_8, mu_mW8, c1, l0, l1, l2, l3, l4, hx, hy, hself, ↓reduceIte, ↓nm_s, ↓lk_s, ↓pc_s, z_add, z_sub, z_mul, z_neg, z_le, z_lt, z_eq, z_ix, z_vin, z_rem, zc_0, zc_1, zc_2, zc_3, zc_4, zc_5, zc_6, zc_7, zc_8, zc_9, zc_10, zc_12, zc_20, zc_60, zc_80, zc_108, zc_120, zc_185, zc_192, zc_1344, zc_9999, zc_FAR, zc_NEV, ite_T, ite_F, bd_s, bd2_s, rz_z, toNat_cast, mR_at, mR_ne, mu_mR, il_t, il_f, ilt_t, ilt_f, ieq_t, ieq_f, nlt_t]
        · rw [if_neg (fun hc => ht hc.2.2.2)]
          simp (disch := omega) only [f_X6_leaveAllAt_2, f_X6_leaveAllAt_71, f_X1_canLeaveAt, mW_ne, mW_8, mu_mW8, c1, l0, l1, l2, l3, l4, hx, hy, hself, ↓reduceIte, ↓nm_s, ↓lk_s, ↓pc_s, z_add, z_sub, z_mul, z_neg, z_le, z_lt, z_eq, z_ix, z_vin, z_rem, zc_0, zc_1, zc_2, zc_3, zc_4, zc_5, zc_6, zc_7, zc_8, zc_9, zc_10, zc_12, zc_20, zc_60, zc_80, zc_108, zc_120, zc_185, zc_192, zc_1344, zc_9999, zc_FAR, zc_NEV, ite_T, ite_F, bd_s, bd2_s, rz_z, toNat_cast, mR_at, mR_ne, mu_mR, il_t, il_f, ilt_t, ilt_f, ieq_t, ieq_f, nlt_t]
    · rw [if_neg (fun hc => hb1 hc.2.1)]
      simp (disch := omega) only [f_X6_leaveAllAt_2, f_X6_leaveAllAt_71, f_X1_canLeaveAt, mW_ne, mW_8, mu_mW8, c1, l0, l1, l2, l3, l4, hx, hy, hself, ↓reduceIte, ↓nm_s, ↓lk_s, ↓pc_s, z_add, z_sub, z_mul, z_neg, z_le, z_lt, z_eq, z_ix, z_vin, z_rem, zc_0, zc_1, zc_2, zc_3, zc_4, zc_5, zc_6, zc_7, zc_8, zc_9, zc_10, zc_12, zc_20, zc_60, zc_80, zc_108, zc_120, zc_185, zc_192, zc_1344, zc_9999, zc_FAR, zc_NEV, ite_T, ite_F, bd_s, bd2_s, rz_z, toNat_cast, mR_at, mR_ne, mu_mR, il_t, il_f, ilt_t, ilt_f, ieq_t, ieq_f, nlt_t]
  · rw [if_neg (fun hc => ha hc.1)]
    simp (disch := omega) only [f_X6_leaveAllAt_2, f_X6_leaveAllAt_71, mW_ne, mW_8, c1, l0, hx, ↓reduceIte, ↓nm_s, ↓lk_s, ↓pc_s, z_add, z_sub, z_mul, z_neg, z_le, z_lt, z_eq, z_ix, z_vin, z_rem, zc_0, zc_1, zc_2, zc_3, zc_4, zc_5, zc_6, zc_7, zc_8, zc_9, zc_10, zc_12, zc_20, zc_60, zc_80, zc_108, zc_120, zc_185, zc_192, zc_1344, zc_9999, zc_FAR, zc_NEV, ite_T, ite_F, bd_s, bd2_s, rz_z, toNat_cast, mR_at, mR_ne, mu_mR, il_t, il_f, ilt_t, ilt_f, ieq_t, ieq_f, nlt_t]
theorem g_leaveAllAt_2 {p h : Int} {M : Mem} {A S : Int → Int} {s : Nat} (hO : Ok p h A) (hC : Cl M s A) {o t T : Int} (t0 : 0 ≤ t) (t1 : t ≤ 900000) (T0 : t ≤ T) (T1 : T ≤ 1000000) :
    ∀ (n f : Nat) (i : Int) (D : Int → Int), 0 ≤ i → i + n = A 1 → n < f → IvN A o t D → Hh A T D →
    ∃ D2, f_X6_leaveAllAt_2 f (mW M D S) s (iZ T) (iZ i) = some (mW M D2 S) ∧ IvN A o t D2 ∧ Hh A T D2 ∧ (∀ j, D2 j = D j ∨ (T < D2 j ∧ D2 j < D j)) ∧
      ∀ k, i ≤ k → k < A 1 → uA A k → D (sA A k) + wT A k (D (sA A k)) = T → D2 (dA A k) ≤ gT A k (D (sA A k)) := by
  have hG := Gr_T hO
  obtain ⟨o1, o2, o3, o4, o5, o6, o7, o8, o9, o10, o11, ol, ob, op, oc⟩ := id hO
  intro n
  induction n with
  | zero =>
    intro f i D i0 hi hf hI hH
    obtain ⟨f, rfl⟩ : ∃ g, f = g + 1 := ⟨f - 1, by omega⟩
    obtain ⟨c0, c1, c2, c3, c4, c5, c6, c7, cl, cp⟩ := hC
    refine ⟨D, ?_, hI, hH, fun j => .inl rfl, fun k k0 k1 => by omega⟩
    simp (disch := omega) only [f_X6_leaveAllAt_2, mW_ne, c1, ↓reduceIte, ↓nm_s, ↓lk_s, ↓pc_s, z_add, z_sub, z_mul, z_neg, z_le, z_lt, z_eq, z_ix, z_vin, z_rem, zc_0, zc_1, zc_2, zc_3, zc_4, zc_5, zc_6, zc_7, zc_8, zc_9, zc_10, zc_12, zc_20, zc_60, zc_80, zc_108, zc_120, zc_185, zc_192, zc_1344, zc_9999, zc_FAR, zc_NEV, ite_T, ite_F, bd_s, bd2_s, rz_z, toNat_cast, mR_at, mR_ne, mu_mR, il_t, il_f, ilt_t, ilt_f, ieq_t, ieq_f, nlt_t]
  | succ n ih =>
    intro f i D i0 hi hf hI hH
    obtain ⟨f, rfl⟩ : ∃ g, f = g + 1 := ⟨f - 1, by omega⟩
    have hk := ol i i0 (by omega)
    unfold lnk at hk
    have e1 := hI.2 (A (8 + 5 * i)) (by omega) (by omega)
    have e2 := hI.2 (A (8 + 5 * i + 1)) (by omega) (by omega)
    have hst := st_all (S := S) (D := D) (T := T) hC f i0 (by omega) o4 rfl rfl rfl rfl rfl (by omega) (by omega) (by omega) (by omega) (by omega) (by omega) (by omega) (by omega) (by omega) (by omega) rfl rfl (hI.nn (by omega) (by omega) (by omega) (by omega)) e1.1 (hI.nn (by omega) (by omega) (by omega) (by omega)) e2.1 (by omega) T1
    by_cases hc : D (A (8 + 5 * i)) ≤ T ∧ A (8 + 5 * i + 4) = 0 ∧ T % 6 ≠ A (8 + 5 * i + 3) ∧ T + A (8 + 5 * i + 2) < D (A (8 + 5 * i + 1))
    · rw [if_pos hc] at hst
      obtain ⟨q1, q2, q3, q4⟩ := hc
      have hgw := gT_w A i (D (A (8 + 5 * i)))
      have hw2 : wT A i (D (A (8 + 5 * i))) = if D (A (8 + 5 * i)) % 6 = A (8 + 5 * i + 3) then 1 else 0 := rfl
      have hge : gT A i (D (A (8 + 5 * i))) = T + A (8 + 5 * i + 2) := by
        by_cases hlt : D (A (8 + 5 * i)) + wT A i (D (A (8 + 5 * i))) < T
        · have := hH i i0 (by omega) q2 (show D (A (8 + 5 * i)) < _ by omega) hlt
          have : D (A (8 + 5 * i + 1)) ≤ gT A i (D (A (8 + 5 * i))) := this
          omega
        · by_cases hm : D (A (8 + 5 * i)) % 6 = A (8 + 5 * i + 3)
          · rw [if_pos hm] at hw2
            by_cases hTe : D (A (8 + 5 * i)) = T
            · rw [hTe] at hm; exact absurd hm q3
            · omega
          · rw [if_neg hm] at hw2
            omega
      have hrx := hI.relax hG (w := 81) (by omega) i0 (by omega) (k := i) q2 (show D (A (8 + 5 * i)) < _ by omega) (show gT A i (D (A (8 + 5 * i))) < D (A (8 + 5 * i + 1)) by omega)
      have hrx := hrx.1
      have hsa : sA A i = A (8 + 5 * i) := rfl
      have hda : dA A i = A (8 + 5 * i + 1) := rfl
      rw [hsa, hda, hge] at hrx
      have hw9 : ∀ k t, 0 ≤ wT A k t := fun k t => by unfold wT; split <;> omega
      have hH2 : Hh A T (uI D (A (8 + 5 * i + 1)) (T + A (8 + 5 * i + 2))) := by
        intro k k0 k1 ku ks kT
        by_cases hsd : sA A k = A (8 + 5 * i + 1)
        · rw [hsd, uI_eq] at kT
          have := hw9 k (T + A (8 + 5 * i + 2))
          omega
        · rw [uI_ne _ _ hsd] at ks kT ⊢
          have := hH k k0 k1 ku ks kT
          by_cases hdd : dA A k = A (8 + 5 * i + 1)
          · rw [hdd, uI_eq]; rw [hdd] at this; omega
          · rw [uI_ne _ _ hdd]; exact this
      obtain ⟨D2, h1, h2, h5, h3, h4⟩ := ih f (i + 1) (uI D (A (8 + 5 * i + 1)) (T + A (8 + 5 * i + 2))) (by omega) (by omega) (by omega) hrx hH2
      refine ⟨D2, hst.trans h1, h2, h5, fun j => ?_, fun k k0 k1 ku ks => ?_⟩
      · have := h3 j
        by_cases hj : j = A (8 + 5 * i + 1)
        · subst hj; rw [uI_eq] at this; omega
        · rw [uI_ne _ _ hj] at this; exact this
      · by_cases hki : k = i
        · subst hki
          have := h3 (A (8 + 5 * k + 1))
          rw [uI_eq] at this
          show D2 (A (8 + 5 * k + 1)) ≤ gT A k (D (A (8 + 5 * k)))
          omega
        · have hsn : sA A k ≠ A (8 + 5 * i + 1) := by
            intro hh
            have h8 := hw9 k (D (sA A k))
            rw [hh] at ks h8
            omega
          have := h4 k (by omega) k1 ku (by rw [uI_ne _ _ hsn]; exact ks)
          rw [uI_ne _ _ hsn] at this
          exact this
    · rw [if_neg hc] at hst
      obtain ⟨D2, h1, h2, h5, h3, h4⟩ := ih f (i + 1) D (by omega) (by omega) (by omega) hI hH
      refine ⟨D2, hst.trans h1, h2, h5, h3, fun k k0 k1 ku ks => ?_⟩
      by_cases hki : k = i
      · subst hki
        have h8 := h3 (A (8 + 5 * k + 1))
        have hgw := gT_w A k (D (A (8 + 5 * k)))
        have ks : D (A (8 + 5 * k)) + wT A k (D (A (8 + 5 * k))) = T := ks
        have hw2 : wT A k (D (A (8 + 5 * k))) = if D (A (8 + 5 * k)) % 6 = A (8 + 5 * k + 3) then 1 else 0 := rfl
        show D2 (A (8 + 5 * k + 1)) ≤ gT A k (D (A (8 + 5 * k)))
        by_cases hlt : T + A (8 + 5 * k + 2) < D (A (8 + 5 * k + 1))
        · exfalso
          refine hc ⟨?_, ku, ?_, hlt⟩
          · split at hw2 <;> omega
          · split at hw2
            · omega
            · next hm => rw [hw2, Int.add_zero] at ks; rw [← ks]; exact hm
        · omega
      · exact h4 k (by omega) k1 ku ks
theorem Hh.low {p h : Int} {A D : Int → Int} (hO : Ok p h A) {o t T : Int} (t1 : t ≤ 900000) (hI : IvN A o t D) (hH : Hh A T D) (T1 : T ≤ 1000000) : ∀ n v t2, Rc (A 1) (sA A) (dA A) (uA A) (gT A) o t n v t2 → t2 ≤ T → D v ≤ t2 := by
  have hG := Gr_T hO
  intro n
  induction n with
  | zero => rintro v t2 ⟨rfl, rfl⟩ _; exact hI.1
  | succ n ih =>
    rintro v t2 ⟨k, t3, k0, k1, ku, rfl, hR, rfl⟩ hT
    have hg := hG.2.2.2.1 k t3 k0 k1
    have h3 := ih _ _ hR (by omega)
    have hm := hG.2.2.2.2 k _ _ k0 k1 h3
    have hw := gT_w A k (D (sA A k))
    obtain ⟨o1, o2, o3, o4, o5, o6, o7, o8, o9, o10, o11, ol, ob, op, oc⟩ := hO
    have hk := ol k k0 k1
    unfold lnk at hk
    have := hH k k0 k1 ku (by omega) (by omega)
    omega
theorem g_byHours_10 {p h : Int} {M : Mem} {A S : Int → Int} {s : Nat} (hO : Ok p h A) (hC : Cl M s A) {o t w : Int} (o0 : 0 ≤ o) (oP : o < A 0) (t0 : 0 ≤ t) (t1 : t ≤ 900000) (w0 : 0 ≤ w) (wP : w < A 0) :
    ∀ (n f : Nat) (r : Int) (D : Int → Int), 0 ≤ r → r + n = 81 → n < f → IvN A o t D → Hh A (t + r) D → t + r ≤ eT A o t w →
    ∃ D2, f_X6_arrivalHourByHour_10 f (mW M D S) s (iZ w) (iZ t) (iZ r) = some (iZ (nv (eT A o t w)), mW M D2 S) := by
  obtain ⟨o1, o2, o3, o4, o5, o6, o7, o8, o9, o10, o11, ol, ob, op, oc⟩ := id hO
  have hle := eT_le hO o0 oP t1 w0 (by omega)
  have hsp := eT_spec hO o0 oP t1 w0 (by omega)
  intro n
  induction n with
  | zero =>
    intro f r D r0 hi hf hI hH he
    obtain ⟨f, rfl⟩ : ∃ g, f = g + 1 := ⟨f - 1, by omega⟩
    refine ⟨D, ?_⟩
    have hF : eT A o t w = 1000000 := by omega
    have hn : nv (eT A o t w) = 2147483647 := by unfold nv; rw [if_pos hF]
    rw [hn]
    simp (disch := omega) only [f_X6_arrivalHourByHour_10, ↓reduceIte, ↓nm_s, ↓lk_s, ↓pc_s, z_add, z_sub, z_mul, z_neg, z_le, z_lt, z_eq, z_ix, z_vin, z_rem, zc_0, zc_1, zc_2, zc_3, zc_4, zc_5, zc_6, zc_7, zc_8, zc_9, zc_10, zc_12, zc_20, zc_60, zc_80, zc_108, zc_120, zc_185, zc_192, zc_1344, zc_9999, zc_FAR, zc_NEV, ite_T, ite_F, bd_s, bd2_s, rz_z, toNat_cast, mR_at, mR_ne, mu_mR, il_t, il_f, ilt_t, ilt_f, ieq_t, ieq_f, nlt_t]
  | succ n ih =>
    intro f r D r0 hi hf hI hH he
    obtain ⟨f, rfl⟩ : ∃ g, f = g + 1 := ⟨f - 1, by omega⟩
    have hDw := hI.2 w w0 (by omega)
    have hDn := hI.nn (by omega) t0 w0 (by omega)
    by_cases hDT : D w = t + r
    · refine ⟨D, ?_⟩
      have hE : eT A o t w = t + r := by
        obtain ⟨m, hm⟩ := (hDw.2 (by omega)).2.2
        rcases hsp with ⟨q1, q2⟩ | ⟨q1, q2, q3⟩
        · exact absurd hm (q2 _ _)
        · have := q3 _ _ hm; omega
      have hn : nv (eT A o t w) = D w := by unfold nv; rw [if_neg (by omega)]; omega
      rw [hn]
      simp (disch := omega) only [f_X6_arrivalHourByHour_10, mW_8, ↓reduceIte, ↓nm_s, ↓lk_s, ↓pc_s, z_add, z_sub, z_mul, z_neg, z_le, z_lt, z_eq, z_ix, z_vin, z_rem, zc_0, zc_1, zc_2, zc_3, zc_4, zc_5, zc_6, zc_7, zc_8, zc_9, zc_10, zc_12, zc_20, zc_60, zc_80, zc_108, zc_120, zc_185, zc_192, zc_1344, zc_9999, zc_FAR, zc_NEV, ite_T, ite_F, bd_s, bd2_s, rz_z, toNat_cast, mR_at, mR_ne, mu_mR, il_t, il_f, ilt_t, ilt_f, ieq_t, ieq_f, nlt_t]
    · obtain ⟨D2, h1, h2, h5, h3, h4⟩ := g_leaveAllAt_2 (S := S) hO hC (o := o) t0 t1 (T := t + r) (by omega) (by omega) (A 1).toNat FU 0 D (by omega) (by omega) (by unfold FU; omega) hI hH
      have hne : eT A o t w ≠ t + r := by
        intro hh
        rcases hsp with ⟨q1, q2⟩ | ⟨q1, ⟨m, q2⟩, q3⟩
        · omega
        · have h8 := Hh.low hO t1 hI hH (by omega) _ _ _ q2 (by omega)
          obtain ⟨m2, hm2⟩ := (hDw.2 (by omega)).2.2
          have := q3 _ _ hm2
          omega
      obtain ⟨D3, e1⟩ := ih f (r + 1) D2 (by omega) (by omega) (by omega) h2 (by
        intro k k0 k1 ku ks kT
        have hsrc := h3 (sA A k)
        have hwk : 0 ≤ wT A k (D2 (sA A k)) := by unfold wT; split <;> omega
        have hsame : D2 (sA A k) = D (sA A k) := by omega
        rw [hsame] at ks kT ⊢
        have hdst := h3 (dA A k)
        by_cases hlt : D (sA A k) + wT A k (D (sA A k)) < t + r
        · have := hH k k0 k1 ku ks hlt; omega
        · exact h4 k k0 k1 ku (by omega)) (by omega)
      refine ⟨D3, ?_⟩
      have hla : f_X6_leaveAllAt (mW M D S) s (iZ (t + r)) = some (mW M D2 S) := by
        unfold f_X6_leaveAllAt
        simp only [zc_0]
        exact h1
      rw [← e1]
      simp (disch := omega) only [f_X6_arrivalHourByHour_10, mW_8, hla, ↓reduceIte, ↓nm_s, ↓lk_s, ↓pc_s, z_add, z_sub, z_mul, z_neg, z_le, z_lt, z_eq, z_ix, z_vin, z_rem, zc_0, zc_1, zc_2, zc_3, zc_4, zc_5, zc_6, zc_7, zc_8, zc_9, zc_10, zc_12, zc_20, zc_60, zc_80, zc_108, zc_120, zc_185, zc_192, zc_1344, zc_9999, zc_FAR, zc_NEV, ite_T, ite_F, bd_s, bd2_s, rz_z, toNat_cast, mR_at, mR_ne, mu_mR, il_t, il_f, ilt_t, ilt_f, ieq_t, ieq_f, nlt_t]
theorem g_byHours {p h : Int} {M : Mem} {A : Int → Int} {s : Nat} (hO : Ok p h A) (hC : Cl M s A) {o t w : Int} (o0 : 0 ≤ o) (oP : o < A 0) (t0 : 0 ≤ t) (t1 : t ≤ 900000) (w0 : 0 ≤ w) (wP : w < A 0) :
    ∃ D S, f_X6_arrivalHourByHour M s (iZ o) (iZ w) (iZ t) = some (iZ (nv (eT A o t w)), mW M D S) := by
  have o1 := hO.1
  have o2 := hO.2.1
  obtain ⟨D, S, h1, h2⟩ := g_startIn (M := M) (t := t) o0 (by omega : o < 9)
  have hI0 : IvN A o t (Iv0 2147483647 o t) := Iv0_iv o0 (by omega) (by omega)
  have hI : IvN A o t D := Iv_cg o0 (by omega) (fun v v0 v1 => (h2 v v0 v1).1) hI0
  have hle := eT_le hO o0 oP t1 w0 (by omega)
  obtain ⟨D2, e1⟩ := g_byHours_10 (S := S) hO hC o0 oP t0 t1 w0 wP 81 FU 0 D (by omega) (by omega) (by unfold FU; omega) hI (by
    intro k k0 k1 ku ks kT
    have hr := (Gr_T hO).2.2.1 k k0 k1
    have := ((hI.2 (sA A k) hr.1 (by omega)).2 ks).1
    have hwk : 0 ≤ wT A k (D (sA A k)) := by unfold wT; split <;> omega
    omega) (by omega)
  refine ⟨D2, S, ?_⟩
  unfold f_X6_arrivalHourByHour
  rw [bdq h1]
  simp only [zc_0]
  exact e1
