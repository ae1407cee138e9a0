/-- what holds between two rounds of settling -/
def Dj (A : Int → Int) (o t w r : Int) (D S : Int → Int) : Prop := IvN A o t D ∧ (∀ v, 0 ≤ v → v < 9 → 0 ≤ S v ∧ S v ≤ 1) ∧ S w = 0 ∧ sF S (A 0).toNat 0 = r ∧
  (∀ v, 0 ≤ v → v < A 0 → S v = 1 → D v < 2147483647 ∧ ∀ k, 0 ≤ k → k < A 1 → uA A k → sA A k = v → D (dA A k) ≤ gT A k (D v)) ∧
  ∀ v v2, 0 ≤ v → v < A 0 → S v = 1 → 0 ≤ v2 → v2 < A 0 → S v2 = 0 → D v ≤ D v2
theorem Dj.next {p h : Int} {A D S D2 : Int → Int} (hO : Ok p h A) {o t w r v : Int} (hJ : Dj A o t w r D S) (v0 : 0 ≤ v) (v1 : v < A 0) (hv : S v = 0) (hw : v ≠ w) (hD : D v < 2147483647) (hmin : ∀ j, 0 ≤ j → j < A 0 → S j = 0 → D v ≤ D j)
    (hI : IvN A o t D2) (h3 : ∀ j, D2 j = D j ∨ (D v < D2 j ∧ D2 j < D j)) (h4 : ∀ k, 0 ≤ k → k < A 1 → uA A k → sA A k = v → D2 (dA A k) ≤ gT A k (D v)) : Dj A o t w (r + 1) D2 (uI S v 1) := by
  obtain ⟨j1, j2, j3, j4, j5, j6⟩ := hJ
  have hself : D2 v = D v := by have := h3 v; omega
  have hset : ∀ u, 0 ≤ u → u < A 0 → S u = 1 → D2 u = D u := fun u u0 u1 hu => by
    have := h3 u
    have := j6 u v u0 u1 hu v0 v1 hv
    omega
  refine ⟨hI, fun u u0 u1 => ?_, by rw [uI_ne _ _ (Ne.symm hw)]; exact j3, ?_, fun u u0 u1 hu => ?_, fun u u2 u0 u1 hu v20 v21 hu2 => ?_⟩
  · by_cases hh : u = v
    · rw [hh, uI_eq]; omega
    · rw [uI_ne _ _ hh]; exact j2 u u0 u1
  · rw [sF_up (f := S) (e := v) (fun k hk => uI_ne _ _ hk) _ _ v0 (by omega), uI_eq]; omega
  · by_cases hh : u = v
    · subst hh; rw [hself]; exact ⟨hD, h4⟩
    · rw [uI_ne _ _ hh] at hu
      obtain ⟨a1, a2⟩ := j5 u u0 u1 hu
      rw [hset u u0 u1 hu]
      refine ⟨a1, fun k k0 k1 ku ks => ?_⟩
      have := a2 k k0 k1 ku ks
      have := h3 (dA A k)
      omega
  · have hn : u2 ≠ v := by intro hh; rw [hh, uI_eq] at hu2; omega
    rw [uI_ne _ _ hn] at hu2
    have := hmin u2 v20 v21 hu2
    have := h3 u2
    by_cases hh : u = v
    · subst hh; rw [hself]; omega
    · rw [uI_ne _ _ hh] at hu
      rw [hset u u0 u1 hu]
      have := j6 u u2 u0 u1 hu v20 v21 hu2
      have := j6 u v u0 u1 hu v0 v1 hv
      omega
theorem Dj.low {p h : Int} {A D S : Int → Int} (hO : Ok p h A) {o t w r c : Int} (o0 : 0 ≤ o) (oP : o < A 0) (hJ : Dj A o t w r D S) (hmin : ∀ j, 0 ≤ j → j < A 0 → S j = 0 → c ≤ D j) (hc : ∀ j, 0 ≤ j → j < A 0 → S j = 0 → D j = 2147483647 ∨ True) (hcn : c ≤ 2147483647) (ht : t ≤ 900000) :
    ∀ n v t2, Rc (A 1) (sA A) (dA A) (uA A) (gT A) o t n v t2 → 0 ≤ v ∧ v < A 0 ∧ ((S v = 1 ∧ D v ≤ t2) ∨ c ≤ t2) := by
  have hG := Gr_T hO
  have o2 := hO.2.1
  obtain ⟨j1, j2, j3, j4, j5, j6⟩ := hJ
  intro n
  induction n with
  | zero =>
    rintro v t2 ⟨rfl, rfl⟩
    have h1 := j2 v o0 (by omega)
    have h2 := j1.1
    refine ⟨o0, oP, ?_⟩
    by_cases hs : S v = 1
    · exact .inl ⟨hs, h2⟩
    · have := hmin v o0 oP (by omega); exact .inr (by omega)
  | succ n ih =>
    rintro v t2 ⟨k, t3, k0, k1, ku, rfl, hR, rfl⟩
    obtain ⟨a1, a2, a3⟩ := ih _ _ hR
    obtain ⟨r1, r2, r3, r4⟩ := hG.2.2.1 k k0 k1
    have hg := hG.2.2.2.1 k t3 k0 k1
    refine ⟨r3, r4, ?_⟩
    rcases a3 with ⟨s1, s2⟩ | h1
    · obtain ⟨d1, d2⟩ := j5 _ a1 a2 s1
      have h5 := d2 k k0 k1 ku rfl
      have h6 := hG.2.2.2.2 k _ _ k0 k1 s2
      have h7 := j2 (dA A k) r3 (by omega)
      by_cases hs : S (dA A k) = 1
      · exact .inl ⟨hs, by omega⟩
      · have := hmin _ r3 r4 (by omega); exact .inr (by omega)
    · exact .inr (by omega)
theorem g_settling_10 {p h : Int} {M : Mem} {A : Int → Int} {s : Nat} (hO : Ok p h A) (hC : Cl M s A) {o t w : Int} (o0 : 0 ≤ o) (oP : o < A 0) (t0 : 0 ≤ t) (t1 : t ≤ 900000) (w0 : 0 ≤ w) (wP : w < A 0) :
    ∀ (n f : Nat) (r : Int) (D S : Int → Int), 0 ≤ r → r + n = A 0 → n < f → Dj A o t w r D S →
    ∃ D2 S2, f_X6_arrivalBySettling_10 f (mW M D S) s (iZ w) (iZ r) = some (iZ (nv (eT A o t w)), mW M D2 S2) := by
  have hG := Gr_T hO
  obtain ⟨o1, o2, o3, o4, o5, o6, o7, o8, o9, o10, o11, ol, ob, op, oc⟩ := id hO
  have hC2 := hC
  obtain ⟨c0, c1, c2, c3, c4, c5, c6, c7, cl, cp⟩ := hC2
  intro n
  induction n with
  | zero =>
    intro f r D S r0 hi hf hJ
    exfalso
    obtain ⟨j1, j2, j3, j4, j5, j6⟩ := hJ
    have h1 := sF_up (f := S) (f2 := uI S w 1) (e := w) (fun k hk => uI_ne _ _ hk) (A 0).toNat 0 w0 (by omega)
    rw [uI_eq] at h1
    have h2 := sF_le (f := uI S w 1) (b := 1) (A 0).toNat 0 (fun k k0 k1 => by
      by_cases hk : k = w
      · rw [hk, uI_eq]; omega
      · rw [uI_ne _ _ hk]; exact (j2 k k0 (by omega)).2)
    omega
  | succ n ih =>
    intro f r D S r0 hi hf hJ
    obtain ⟨f, rfl⟩ : ∃ g, f = g + 1 := ⟨f - 1, by omega⟩
    have hJ2 := hJ
    obtain ⟨j1, j2, j3, j4, j5, j6⟩ := hJ2
    have hDn : ∀ v, 0 ≤ v → v < 9 → 0 ≤ D v ∧ D v ≤ 2147483647 := fun v v0 v1 => ⟨j1.nn (by omega) t0 v0 v1, (j1.2 v v0 v1).1⟩
    obtain ⟨b, h1, h2⟩ := g_earliestUnsettled_8 hO hC hDn j2 (A 0).toNat FU 0 (-1) 2147483647 (by omega) (by omega) (by unfold FU; omega) (.inl ⟨rfl, rfl⟩) (fun v v0 v1 => by omega)
    have hes : f_X6_earliestUnsettled (mW M D S) s = some (iZ b) := by
      unfold f_X6_earliestUnsettled
      simp only [zc_0, zc_1, z_neg, zc_NEV]
      exact h1
    have hw := hDn w w0 (by omega)
    rcases h2 with ⟨rfl, h3⟩ | ⟨b0, b1, b2, b3, b4⟩
    · refine ⟨D, S, ?_⟩
      have hlow := hJ.low hO o0 oP (c := 2147483647) (fun j a b c => by have := h3 j a b c; omega) (fun _ _ _ _ => .inr trivial) (Int.le_refl _) t1
      have hE : D w = nv (eT A o t w) := nvE hO o0 oP t1 w0 (by omega) (by
        have hDw := h3 w w0 wP j3
        refine .inl ⟨hDw, fun n t2 hR => ?_⟩
        have hsp := eT_spec hO o0 oP t1 w0 (by omega : w < 9)
        rcases hsp with ⟨q1, q2⟩ | ⟨q1, ⟨m, q2⟩, q3⟩
        · exact q2 _ _ hR
        · have := (hlow _ _ _ q2).2.2
          omega)
      rw [← hE]
      simp (disch := omega) only [f_X6_arrivalBySettling_10, f_X6_arrivalBySettling_62, mW_ne, mW_8, c0, hes, ↓reduceIte, ↓nm_s, ↓lk_s, ↓pc_s, z_add, z_sub, z_mul, z_neg, z_le, z_lt, z_eq, z_ix, z_vin, z_rem, zc_0, zc_1, zc_2, zc_3, zc_4, zc_5, zc_6, zc_7, zc_8, zc_9, zc_10, zc_12, zc_20, zc_60, zc_80, zc_108, zc_120, zc_185, zc_192, zc_1344, zc_9999, zc_FAR, zc_NEV, ite_T, ite_F, bd_s, bd2_s, rz_z, toNat_cast, mR_at, mR_ne, mu_mR, il_t, il_f, ilt_t, ilt_f, ieq_t, ieq_f, nlt_t]
    · by_cases hbw : b = w
      · refine ⟨D, S, ?_⟩
        have hlow := hJ.low hO o0 oP (c := D w) (fun j x y z => by rw [← hbw]; exact b4 j x y z) (fun _ _ _ _ => .inr trivial) hw.2 t1
        have hE : D w = nv (eT A o t w) := nvE hO o0 oP t1 w0 (by omega) (.inr ⟨by rw [← hbw]; exact b3, ((j1.2 w w0 (by omega)).2 (by rw [← hbw]; exact b3)).2.2, fun n t2 hR => by
          have := (hlow _ _ _ hR).2.2
          omega⟩)
        rw [← hE]
        simp (disch := omega) only [f_X6_arrivalBySettling_10, f_X6_arrivalBySettling_62, mW_ne, mW_8, c0, hes, ↓reduceIte, ↓nm_s, ↓lk_s, ↓pc_s, z_add, z_sub, z_mul, z_neg, z_le, z_lt, z_eq, z_ix, z_vin, z_rem, zc_0, zc_1, zc_2, zc_3, zc_4, zc_5, zc_6, zc_7, zc_8, zc_9, zc_10, zc_12, zc_20, zc_60, zc_80, zc_108, zc_120, zc_185, zc_192, zc_1344, zc_9999, zc_FAR, zc_NEV, ite_T, ite_F, bd_s, bd2_s, rz_z, toNat_cast, mR_at, mR_ne, mu_mR, il_t, il_f, ilt_t, ilt_f, ieq_t, ieq_f, nlt_t]
      · obtain ⟨D2, e1, e2, e3, e4⟩ := g_leavePlace_2 (S := uI S b 1) hO hC t0 t1 b0 b1 (A 1).toNat FU 0 D (by omega) (by omega) (by unfold FU; omega) j1 b3
        have hlp : f_X6_leavePlace (mW M D (uI S b 1)) s (iZ b) = some (mW M D2 (uI S b 1)) := by
          unfold f_X6_leavePlace
          simp only [zc_0]
          exact e1
        obtain ⟨D3, S3, q1⟩ := ih f (r + 1) D2 (uI S b 1) (by omega) (by omega) (by omega) (hJ.next hO b0 b1 b2 hbw b3 b4 e2 e3 e4)
        refine ⟨D3, S3, ?_⟩
        rw [← q1]
        simp (disch := omega) only [f_X6_arrivalBySettling_10, mW_ne, mu_mW9, c0, hes, hlp, ↓reduceIte, ↓nm_s, ↓lk_s, ↓pc_s, z_add, z_sub, z_mul, z_neg, z_le, z_lt, z_eq, z_ix, z_vin, z_rem, zc_0, zc_1, zc_2, zc_3, zc_4, zc_5, zc_6, zc_7, zc_8, zc_9, zc_10, zc_12, zc_20, zc_60, zc_80, zc_108, zc_120, zc_185, zc_192, zc_1344, zc_9999, zc_FAR, zc_NEV, ite_T, ite_F, bd_s, bd2_s, rz_z, toNat_cast, mR_at, mR_ne, mu_mR, il_t, il_f, ilt_t, ilt_f, ieq_t, ieq_f, nlt_t]
theorem g_startIn_2 {M : Mem} {o t : Int} (o0 : 0 ≤ o) (o1 : o < 9) : ∀ (n f : Nat) (i : Int) (D S : Int → Int), 0 ≤ i → i + n = 9 → n < f → (∀ v, 0 ≤ v → v < i → D v = 2147483647 ∧ S v = 0) →
    ∃ D2 S2, f_X6_startIn_2 f (mW M D S) (iZ o) (iZ t) (iZ i) = some (mW M D2 S2) ∧ ∀ v, 0 ≤ v → v < 9 → D2 v = Iv0 2147483647 o t v ∧ S2 v = 0 := by
  intro n
  induction n with
  | zero =>
    intro f i D S i0 hi hf hR
    obtain ⟨f, rfl⟩ : ∃ g, f = g + 1 := ⟨f - 1, by omega⟩
    refine ⟨uI D o t, S, ?_, fun v v0 v1 => ⟨?_, (hR v v0 (by omega)).2⟩⟩
    · simp (disch := omega) only [f_X6_startIn_2, mu_mW8, ↓reduceIte, ↓nm_s, ↓lk_s, ↓pc_s, z_add, z_sub, z_mul, z_neg, z_le, z_lt, z_eq, z_ix, z_vin, z_rem, zc_0, zc_1, zc_2, zc_3, zc_4, zc_5, zc_6, zc_7, zc_8, zc_9, zc_10, zc_12, zc_20, zc_60, zc_80, zc_108, zc_120, zc_185, zc_192, zc_1344, zc_9999, zc_FAR, zc_NEV, ite_T, ite_F, bd_s, bd2_s, rz_z, toNat_cast, mR_at, mR_ne, mu_mR, il_t, il_f, ilt_t, ilt_f, ieq_t, ieq_f, nlt_t]
    · unfold Iv0 uI
      by_cases hv : v = o
      · rw [if_pos hv, if_pos hv]
      · rw [if_neg hv, if_neg hv]; exact (hR v v0 (by omega)).1
  | succ n ih =>
    intro f i D S i0 hi hf hR
    obtain ⟨f, rfl⟩ : ∃ g, f = g + 1 := ⟨f - 1, by omega⟩
    obtain ⟨D2, S2, h1, h2⟩ := ih f (i + 1) (uI D i 2147483647) (uI S i 0) (by omega) (by omega) (by omega) (fun v v0 v1 => by
      by_cases hv : v = i
      · rw [hv, uI_eq, uI_eq]; exact ⟨rfl, rfl⟩
      · rw [uI_ne _ _ hv, uI_ne _ _ hv]; exact hR v v0 (by omega))
    refine ⟨D2, S2, ?_, h2⟩
    rw [← h1]
    simp (disch := omega) only [f_X6_startIn_2, mu_mW8, mu_mW9, ↓reduceIte, ↓nm_s, ↓lk_s, ↓pc_s, z_add, z_sub, z_mul, z_neg, z_le, z_lt, z_eq, z_ix, z_vin, z_rem, zc_0, zc_1, zc_2, zc_3, zc_4, zc_5, zc_6, zc_7, zc_8, zc_9, zc_10, zc_12, zc_20, zc_60, zc_80, zc_108, zc_120, zc_185, zc_192, zc_1344, zc_9999, zc_FAR, zc_NEV, ite_T, ite_F, bd_s, bd2_s, rz_z, toNat_cast, mR_at, mR_ne, mu_mR, il_t, il_f, ilt_t, ilt_f, ieq_t, ieq_f, nlt_t]
theorem g_startIn {M : Mem} {o t : Int} (o0 : 0 ≤ o) (o1 : o < 9) : ∃ D S, f_X6_startIn M (iZ o) (iZ t) = some (mW M D S) ∧ ∀ v, 0 ≤ v → v < 9 → D v = Iv0 2147483647 o t v ∧ S v = 0 := by
  obtain ⟨D, S, hM⟩ := mW_ex M
  obtain ⟨D2, S2, h1, h2⟩ := g_startIn_2 (M := M) (t := t) o0 o1 9 FU 0 D S (by omega) (by omega) (by unfold FU; omega) (fun v v0 v1 => by omega)
  refine ⟨D2, S2, ?_, h2⟩
  unfold f_X6_startIn
  simp only [zc_0]
  rw [← hM] at h1
  exact h1
theorem g_settling {p h : Int} {M : Mem} {A : Int → Int} {s : Nat} (hO : Ok p h A) (hC : Cl M s A) {o t w : Int} (o0 : 0 ≤ o) (oP : o < A 0) (t0 : 0 ≤ t) (t1 : t ≤ 900000) (w0 : 0 ≤ w) (wP : w < A 0) :
    ∃ D S, f_X6_arrivalBySettling M s (iZ o) (iZ w) (iZ t) = some (iZ (nv (eT A o t w)), mW M D S) := by
  have o1 := hO.1
  have o2 := hO.2.1
  obtain ⟨D, S, h1, h2⟩ := g_startIn (M := M) (t := t) o0 (by omega : o < 9)
  have hI : IvN A o t D := Iv_cg o0 (by omega) (fun v v0 v1 => (h2 v v0 v1).1) (Iv0_iv o0 (by omega) (by omega))
  obtain ⟨D2, S2, e1⟩ := g_settling_10 hO hC o0 oP t0 t1 w0 wP (A 0).toNat FU 0 D S (by omega) (by omega) (by unfold FU; omega)
    ⟨hI, fun v v0 v1 => by rw [(h2 v v0 v1).2]; omega, (h2 w w0 (by omega)).2, by rw [sF_cg (g := fun _ => 0) _ 0 (fun k k0 k1 => (h2 k k0 (by omega)).2)]; exact Int.le_antisymm (by have := sF_le (f := fun _ => (0 : Int)) (b := 0) (A 0).toNat 0 (fun _ _ _ => Int.le_refl 0); omega) (sF_nn _ _ (fun _ _ _ => Int.le_refl 0)),
      fun v v0 v1 hv => by rw [(h2 v v0 (by omega)).2] at hv; omega, fun v v2 v0 v1 hv => by rw [(h2 v v0 (by omega)).2] at hv; omega⟩
  refine ⟨D2, S2, ?_⟩
  unfold f_X6_arrivalBySettling
  rw [bdq h1]
  simp only [zc_0]
  exact e1
