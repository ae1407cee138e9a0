abbrev NEV : Int := 2147483647
def nv (e : Int) : Int := if e = 1000000 then 2147483647 else e
theorem nvE {p h : Int} {A : Int → Int} (hO : Ok p h A) {o t v e : Int} (ho : 0 ≤ o) (ho2 : o < A 0) (ht : t ≤ 900000) (h0 : 0 ≤ v) (h1 : v < 9) (hE : Ea (A 1) (sA A) (dA A) (uA A) (gT A) o t 2147483647 v e) : e = nv (eT A o t v) := by
  have hs := eT_spec hO ho ho2 ht h0 h1
  unfold nv
  rcases hs with ⟨a1, a2⟩ | ⟨a1, ⟨n, a2⟩, a3⟩
  · rw [if_pos a1]
    rcases hE with ⟨b1, b2⟩ | ⟨b1, ⟨m, b2⟩, b3⟩
    · exact b1
    · exact absurd b2 (a2 _ _)
  · rw [if_neg (by omega)]
    rcases hE with ⟨b1, b2⟩ | ⟨b1, ⟨m, b2⟩, b3⟩
    · exact absurd a2 (b2 _ _)
    · have := a3 _ _ b2
      have := b3 _ _ a2
      omega
/-- the memory with the class's rows for ways -/
def mW (M : Mem) (D S : Int → Int) : Mem := mR (mR M 8 0 D) 9 0 S
theorem mW_8 (M : Mem) (D S : Int → Int) : mW M D S 8 0 = rz D := by unfold mW; rw [mR_ne _ _ (by omega), mR_at]
theorem mW_9 (M : Mem) (D S : Int → Int) : mW M D S 9 0 = rz S := mR_at _ _ _ _
theorem mW_ne (M : Mem) (D S : Int → Int) {a i : Nat} (h : a ≠ 8 ∧ a ≠ 9) : mW M D S a i = M a i := by unfold mW; rw [mR_ne _ _ (by omega), mR_ne _ _ (by omega)]
theorem mu_mW8 (M : Mem) (D S : Int → Int) {e v : Int} (h : 0 ≤ e) : mu (mW M D S) 8 0 e.toNat (iZ v) = mW M (uI D e v) S := by
  unfold mW
  rw [← mu_mR M 8 0 D h]
  funext b j
  by_cases h9 : b = 9 ∧ j = 0
  · obtain ⟨rfl, rfl⟩ := h9
    rw [mR_at, mu_ne _ _ _ (by omega), mR_at]
  · by_cases h8 : b = 8 ∧ j = 0
    · obtain ⟨rfl, rfl⟩ := h8
      rw [mu_row, mR_ne _ _ h9, mR_ne _ _ h9, mu_row]
    · rw [mu_ne _ _ _ h8, mR_ne _ _ h9, mR_ne _ _ h9, mu_ne _ _ _ h8]
theorem mu_mW9 (M : Mem) (D S : Int → Int) {e v : Int} (h : 0 ≤ e) : mu (mW M D S) 9 0 e.toNat (iZ v) = mW M D (uI S e v) := mu_mR _ 9 0 S h
theorem mW_ex (M : Mem) : ∃ D S : Int → Int, M = mW M D S := by
  obtain ⟨D, -, -, h8⟩ := mR_self M 8 0
  obtain ⟨S, -, -, h9⟩ := mR_self M 9 0
  exact ⟨D, S, by unfold mW; rw [← h8, ← h9]⟩
theorem mW_mW (M : Mem) (D S D2 S2 : Int → Int) : mW (mW M D S) D2 S2 = mW M D2 S2 := by
  funext b j
  by_cases h9 : b = 9 ∧ j = 0
  · obtain ⟨rfl, rfl⟩ := h9; rw [mW_9, mW_9]
  · by_cases h8 : b = 8 ∧ j = 0
    · obtain ⟨rfl, rfl⟩ := h8; rw [mW_8, mW_8]
    · unfold mW; simp only [mR_ne _ _ h9, mR_ne _ _ h8]
theorem g_whenReady {M : Mem} {A : Int → Int} {s : Nat} {i x w q : Int} (h2 : M 4 (20 * s + i.toNat) 2 = iZ w) (h3 : M 4 (20 * s + i.toNat) 3 = iZ q) (x0 : 0 ≤ x) (x1 : x ≤ 2000000) (w0 : 0 ≤ w) (w1 : w ≤ 9) (q0 : 0 ≤ q) (q1 : q ≤ 5) : f_X1_arrivalWhenReadyAt M (20 * s + i.toNat) (iZ x) = some (iZ (x + (if x % 6 = q then 1 else 0) + w)) := by
  by_cases hq : x % 6 = q <;> simp (disch := omega) only [f_X1_arrivalWhenReadyAt, f_X1_arrivalWhenReadyAt_16, h2, h3, ↓reduceIte, ↓nm_s, ↓lk_s, ↓pc_s, z_add, z_sub, z_mul, z_neg, z_le, z_lt, z_eq, z_ix, z_vin, z_rem, zc_0, zc_1, zc_2, zc_3, zc_4, zc_5, zc_6, zc_7, zc_8, zc_9, zc_10, zc_12, zc_20, zc_60, zc_80, zc_108, zc_120, zc_185, zc_192, zc_1344, zc_9999, zc_FAR, zc_NEV, ite_T, ite_F, bd_s, bd2_s, rz_z, toNat_cast, mR_at, mR_ne, mu_mR, il_t, il_f, ilt_t, ilt_f, ieq_t, ieq_f, nlt_t]
set_option maxHeartbeats 4000000 in
theorem st_leave {M : Mem} {A D S : Int → Int} {s : Nat} {p h : Int} (hC : Cl M s A) {i a d w q b x y z v : Int} (f : Nat) (i0 : 0 ≤ i) (i1 : i < A 1) (i2 : A 1 ≤ 20) (hs : A (8 + 5 * i) = a) (hd : A (8 + 5 * i + 1) = d) (hw : A (8 + 5 * i + 2) = w) (hq : A (8 + 5 * i + 3) = q) (hb : A (8 + 5 * i + 4) = b) (s0 : 0 ≤ a) (s1 : a < 9) (d0 : 0 ≤ d) (d1 : d < 9) (w0 : 1 ≤ w) (w1 : w ≤ 9) (b0 : 0 ≤ b) (b1 : b ≤ 1) (q0 : 0 ≤ q) (q1 : q ≤ 5)
    (v0 : 0 ≤ v) (v1 : v < 9) (hx : D v = x) (hy : D d = y) (x0 : 0 ≤ x) (x1 : x ≤ 1000000) (y0 : 0 ≤ y) (y1 : y ≤ 2147483647) (hz : z = x + (if x % 6 = q then 1 else 0) + w) :
    f_X6_leavePlace_2 (f + 1) (mW M D S) s (iZ v) (iZ i) = if a = v ∧ b = 0 ∧ z < y then f_X6_leavePlace_2 f (mW M (uI D d z) S) s (iZ v) (iZ (i + 1)) else f_X6_leavePlace_2 f (mW M D S) s (iZ v) (iZ (i + 1)) := by
  obtain ⟨c0, c1, c2, c3, c4, c5, c6, c7, cl, cp⟩ := hC
  obtain ⟨l0, l1, l2, l3, l4⟩ := cl i i0 i1
  rw [hs] at l0
  rw [hd] at l1
  rw [hw] at l2
  rw [hq] at l3
  rw [hb] at l4
  have hr := g_whenReady (M := mW M D S) (A := A) (s := s) (i := i) (x := x) (w := w) (q := q) (by rw [mW_ne _ _ _ (by omega)]; exact l2) (by rw [mW_ne _ _ _ (by omega)]; exact l3) x0 (by omega) (by omega) w1 q0 q1
  rw [← hz] at hr
  have hself : uI D d y = D := by rw [← hy]; exact uI_self D d
  have z0 : x ≤ z := by rw [hz]; split <;> omega
  have z1 : z ≤ x + 10 := by rw [hz]; split <;> omega
  clear hz
  by_cases ha : a = v
  · by_cases hb1 : b = 0
    · by_cases ht : z < y
      · rw [if_pos ⟨ha, hb1, ht⟩]
        simp (disch := omega) only [f_X6_leavePlace_2, f_X6_leavePlace_73, mW_ne, mW_8, mu_mW8, c1, l0, l1, l4, hx, hy, hr, ↓reduceIte, ↓nm_s, ↓lk_s, ↓pc_s, z_add, z_sub, z_mul, z_neg, z_le, z_lt, z_eq, z_ix, z_vin, z_rem, zc_0, zc_1, zc_2, zc_3, zc_4, zc_5, zc_6, zc_7, zc_8, zc_9, zc_10, zc_12, zc_20, zc_60, zc_80, zc_108, zc_120, zc_185, zc_192, zc_1344, zc_9999, zc_FAR, zc_NEV, ite_T, ite_F, bd_s, bd2_s, rz_z, toNat_cast, mR_at, mR_ne, mu_mR, il_t, il_f, ilt_t, ilt_f, ieq_t, ieq_f, nlt_t]
      · rw [if_neg (fun hc => ht hc.2.2)]
        simp (disch := omega) only [f_X6_leavePlace_2, f_X6_leavePlace_73, mW_ne, mW_8, mu_mW8, c1, l0, l1, l4, hx, hy, hr, hself, ↓reduceIte, ↓nm_s, ↓lk_s, ↓pc_s, z_add, z_sub, z_mul, z_neg, z_le, z_lt, z_eq, z_ix, z_vin, z_rem, zc_0, zc_1, zc_2, zc_3, zc_4, zc_5, zc_6, zc_7, zc_8, zc_9, zc_10, zc_12, zc_20, zc_60, zc_80, zc_108, zc_120, zc_185, zc_192, zc_1344, zc_9999, zc_FAR, zc_NEV, ite_T, ite_F, bd_s, bd2_s, rz_z, toNat_cast, mR_at, mR_ne, mu_mR, il_t, il_f, ilt_t, ilt_f, ieq_t, ieq_f, nlt_t]
    · rw [if_neg (fun hc => hb1 hc.2.1)]
      simp (disch := omega) only [f_X6_leavePlace_2, f_X6_leavePlace_73, mW_ne, c1, l0, l4, ↓reduceIte, ↓nm_s, ↓lk_s, ↓pc_s, z_add, z_sub, z_mul, z_neg, z_le, z_lt, z_eq, z_ix, z_vin, z_rem, zc_0, zc_1, zc_2, zc_3, zc_4, zc_5, zc_6, zc_7, zc_8, zc_9, zc_10, zc_12, zc_20, zc_60, zc_80, zc_108, zc_120, zc_185, zc_192, zc_1344, zc_9999, zc_FAR, zc_NEV, ite_T, ite_F, bd_s, bd2_s, rz_z, toNat_cast, mR_at, mR_ne, mu_mR, il_t, il_f, ilt_t, ilt_f, ieq_t, ieq_f, nlt_t]
  · rw [if_neg (fun hc => ha hc.1)]
    simp (disch := omega) only [f_X6_leavePlace_2, f_X6_leavePlace_73, mW_ne, c1, l0, ↓reduceIte, ↓nm_s, ↓lk_s, ↓pc_s, z_add, z_sub, z_mul, z_neg, z_le, z_lt, z_eq, z_ix, z_vin, z_rem, zc_0, zc_1, zc_2, zc_3, zc_4, zc_5, zc_6, zc_7, zc_8, zc_9, zc_10, zc_12, zc_20, zc_60, zc_80, zc_108, zc_120, zc_185, zc_192, zc_1344, zc_9999, zc_FAR, zc_NEV, ite_T, ite_F, bd_s, bd2_s, rz_z, toNat_cast, mR_at, mR_ne, mu_mR, il_t, il_f, ilt_t, ilt_f, ieq_t, ieq_f, nlt_t]
abbrev IvN (A : Int → Int) (o t : Int) (D : Int → Int) : Prop := Iv (A 1) 10 (sA A) (dA A) (uA A) (gT A) o t 2147483647 D
theorem g_leavePlace_2 {p h : Int} {M : Mem} {A S : Int → Int} {s : Nat} (hO : Ok p h A) (hC : Cl M s A) {o t v : Int} (t0 : 0 ≤ t) (t1 : t ≤ 900000) (v0 : 0 ≤ v) (v1 : v < A 0) :
    ∀ (n f : Nat) (i : Int) (D : Int → Int), 0 ≤ i → i + n = A 1 → n < f → IvN A o t D → D v < 2147483647 →
    ∃ D2, f_X6_leavePlace_2 f (mW M D S) s (iZ v) (iZ i) = some (mW M D2 S) ∧ IvN A o t D2 ∧ (∀ j, D2 j = D j ∨ (D v < D2 j ∧ D2 j < D j)) ∧
      ∀ k, i ≤ k → k < A 1 → uA A k → sA A k = v → D2 (dA A k) ≤ gT A k (D v) := by
  have hG := Gr_T hO
  obtain ⟨o1, o2, o3, o4, o5, o6, o7, o8, o9, o10, o11, ol, ob, op, oc⟩ := id hO
  intro n
  induction n with
  | zero =>
    intro f i D i0 hi hf hI hv
    obtain ⟨f, rfl⟩ : ∃ g, f = g + 1 := ⟨f - 1, by omega⟩
    obtain ⟨c0, c1, c2, c3, c4, c5, c6, c7, cl, cp⟩ := hC
    refine ⟨D, ?_, hI, fun j => .inl rfl, fun k k0 k1 => by omega⟩
    simp (disch := omega) only [f_X6_leavePlace_2, mW_ne, c1, ↓reduceIte, ↓nm_s, ↓lk_s, ↓pc_s, z_add, z_sub, z_mul, z_neg, z_le, z_lt, z_eq, z_ix, z_vin, z_rem, zc_0, zc_1, zc_2, zc_3, zc_4, zc_5, zc_6, zc_7, zc_8, zc_9, zc_10, zc_12, zc_20, zc_60, zc_80, zc_108, zc_120, zc_185, zc_192, zc_1344, zc_9999, zc_FAR, zc_NEV, ite_T, ite_F, bd_s, bd2_s, rz_z, toNat_cast, mR_at, mR_ne, mu_mR, il_t, il_f, ilt_t, ilt_f, ieq_t, ieq_f, nlt_t]
  | succ n ih =>
    intro f i D i0 hi hf hI hv
    obtain ⟨f, rfl⟩ : ∃ g, f = g + 1 := ⟨f - 1, by omega⟩
    have hk := ol i i0 (by omega)
    unfold lnk at hk
    have e1 := hI.2 v v0 (by omega)
    have e2 := hI.2 (A (8 + 5 * i + 1)) (by omega) (by omega)
    have e3 := e1.2 hv
    have top := hI.top (by omega) v0 (by omega) hv
    have hst := st_leave (p := p) (h := h) (S := S) (D := D) (z := gT A i (D v)) hC f i0 (by omega) o4 rfl rfl rfl rfl rfl (by omega) (by omega) (by omega) (by omega) (by omega) (by omega) (by omega) (by omega) (by omega) (by omega) v0 (by omega) rfl rfl (by omega) (by omega) (hI.nn (by omega) (by omega) (by omega) (by omega)) e2.1 rfl
    have hg := hG.2.2.2.1 i (D v) i0 (by omega)
    by_cases hc : A (8 + 5 * i) = v ∧ A (8 + 5 * i + 4) = 0 ∧ gT A i (D v) < D (A (8 + 5 * i + 1))
    · rw [if_pos hc] at hst
      have hsv : sA A i = v := hc.1
      have hrx := hI.relax hG (w := 81) (by omega) i0 (by omega) (k := i) hc.2.1 (by rw [hsv]; exact hv) (by rw [hsv]; exact hc.2.2)
      have hrx := hrx.1
      rw [hsv] at hrx
      have hvd : v ≠ A (8 + 5 * i + 1) := by
        intro hh
        have := hc.2.2
        rw [← hh] at this
        omega
      have hDv : uI D (A (8 + 5 * i + 1)) (gT A i (D v)) v = D v := uI_ne _ _ hvd
      obtain ⟨D2, h1, h2, h3, h4⟩ := ih f (i + 1) (uI D (A (8 + 5 * i + 1)) (gT A i (D v))) (by omega) (by omega) (by omega) hrx (by rw [hDv]; exact hv)
      rw [hDv] at h3 h4
      refine ⟨D2, hst.trans h1, h2, fun j => ?_, fun k k0 k1 ku ks => ?_⟩
      · have := h3 j
        by_cases hj : j = A (8 + 5 * i + 1)
        · subst hj; rw [uI_eq] at this; omega
        · rw [uI_ne _ _ hj] at this; exact this
      · by_cases hki : k = i
        · subst hki
          have := h3 (A (8 + 5 * k + 1))
          rw [uI_eq] at this
          show D2 (A (8 + 5 * k + 1)) ≤ _
          omega
        · exact h4 k (by omega) k1 ku ks
    · rw [if_neg hc] at hst
      obtain ⟨D2, h1, h2, h3, h4⟩ := ih f (i + 1) D (by omega) (by omega) (by omega) hI hv
      refine ⟨D2, hst.trans h1, h2, h3, fun k k0 k1 ku ks => ?_⟩
      by_cases hki : k = i
      · subst hki
        have := h3 (A (8 + 5 * k + 1))
        show D2 (A (8 + 5 * k + 1)) ≤ _
        by_cases hlt : gT A k (D v) < D (A (8 + 5 * k + 1))
        · exact absurd ⟨ks, ku, hlt⟩ hc
        · omega
      · exact h4 k (by omega) k1 ku ks
theorem g_earliestUnsettled_8 {p h : Int} {M : Mem} {A D S : Int → Int} {s : Nat} (hO : Ok p h A) (hC : Cl M s A) (hD : ∀ v, 0 ≤ v → v < 9 → 0 ≤ D v ∧ D v ≤ 2147483647) (hS : ∀ v, 0 ≤ v → v < 9 → 0 ≤ S v ∧ S v ≤ 1) :
    ∀ (n f : Nat) (i b c : Int), 0 ≤ i → i + n = A 0 → n < f → ((b = -1 ∧ c = 2147483647) ∨ (0 ≤ b ∧ b < i ∧ S b = 0 ∧ c = D b ∧ c < 2147483647)) → (∀ v, 0 ≤ v → v < i → S v = 0 → c ≤ D v) →
    ∃ b2, f_X6_earliestUnsettled_8 (mW M D S) f s (iZ b) (iZ c) (iZ i) = some (iZ b2) ∧ ((b2 = -1 ∧ ∀ v, 0 ≤ v → v < A 0 → S v = 0 → D v = 2147483647) ∨ (0 ≤ b2 ∧ b2 < A 0 ∧ S b2 = 0 ∧ D b2 < 2147483647 ∧ ∀ v, 0 ≤ v → v < A 0 → S v = 0 → D b2 ≤ D v)) := by
  obtain ⟨o1, o2, o3, o4, o5, o6, o7, o8, o9, o10, o11, ol, ob, op, oc⟩ := hO
  obtain ⟨c0, c1, c2, c3, c4, c5, c6, c7, cl, cp⟩ := hC
  intro n
  induction n with
  | zero =>
    intro f i b c i0 hi hf hb hv
    obtain ⟨f, rfl⟩ : ∃ g, f = g + 1 := ⟨f - 1, by omega⟩
    refine ⟨b, ?_, ?_⟩
    · simp (disch := omega) only [f_X6_earliestUnsettled_8, mW_ne, c0, ↓reduceIte, ↓nm_s, ↓lk_s, ↓pc_s, z_add, z_sub, z_mul, z_neg, z_le, z_lt, z_eq, z_ix, z_vin, z_rem, zc_0, zc_1, zc_2, zc_3, zc_4, zc_5, zc_6, zc_7, zc_8, zc_9, zc_10, zc_12, zc_20, zc_60, zc_80, zc_108, zc_120, zc_185, zc_192, zc_1344, zc_9999, zc_FAR, zc_NEV, ite_T, ite_F, bd_s, bd2_s, rz_z, toNat_cast, mR_at, mR_ne, mu_mR, il_t, il_f, ilt_t, ilt_f, ieq_t, ieq_f, nlt_t]
    · rcases hb with ⟨h1, h2⟩ | ⟨h1, h2, h3, h4, h5⟩
      · exact .inl ⟨h1, fun v v0 v1 hs => by have := hv v v0 (by omega) hs; have := hD v v0 (by omega); omega⟩
      · exact .inr ⟨h1, by omega, h3, by omega, fun v v0 v1 hs => by have := hv v v0 (by omega) hs; omega⟩
  | succ n ih =>
    intro f i b c i0 hi hf hb hv
    obtain ⟨f, rfl⟩ : ∃ g, f = g + 1 := ⟨f - 1, by omega⟩
    have di := hD i i0 (by omega)
    have si := hS i i0 (by omega)
    have hc : 0 ≤ c ∧ c ≤ 2147483647 := by
      rcases hb with ⟨h1, h2⟩ | ⟨h1, h2, h3, h4, h5⟩
      · omega
      · have := hD b h1 (by omega); omega
    by_cases hs : S i = 0
    · by_cases hlt : D i < c
      · obtain ⟨b2, h1, h2⟩ := ih f (i + 1) i (D i) (by omega) (by omega) (by omega) (.inr ⟨i0, by omega, hs, rfl, by omega⟩) (fun v v0 v1 hv0 => by
          by_cases hvi : v = i
          · subst hvi; exact Int.le_refl _
          · have := hv v v0 (by omega) hv0; omega)
        refine ⟨b2, ?_, h2⟩
        rw [← h1]
        simp (disch := omega) only [f_X6_earliestUnsettled_8, f_X6_earliestUnsettled_49, mW_ne, mW_8, mW_9, c0, hs, ↓reduceIte, ↓nm_s, ↓lk_s, ↓pc_s, z_add, z_sub, z_mul, z_neg, z_le, z_lt, z_eq, z_ix, z_vin, z_rem, zc_0, zc_1, zc_2, zc_3, zc_4, zc_5, zc_6, zc_7, zc_8, zc_9, zc_10, zc_12, zc_20, zc_60, zc_80, zc_108, zc_120, zc_185, zc_192, zc_1344, zc_9999, zc_FAR, zc_NEV, ite_T, ite_F, bd_s, bd2_s, rz_z, toNat_cast, mR_at, mR_ne, mu_mR, il_t, il_f, ilt_t, ilt_f, ieq_t, ieq_f, nlt_t]
      · obtain ⟨b2, h1, h2⟩ := ih f (i + 1) b c (by omega) (by omega) (by omega) (by rcases hb with h1 | ⟨h1, h2, h3⟩; exact .inl h1; exact .inr ⟨h1, by omega, h3⟩) (fun v v0 v1 hv0 => by
          by_cases hvi : v = i
          · subst hvi; omega
          · exact hv v v0 (by omega) hv0)
        refine ⟨b2, ?_, h2⟩
        rw [← h1]
        simp (disch := omega) only [f_X6_earliestUnsettled_8, f_X6_earliestUnsettled_49, mW_ne, mW_8, mW_9, c0, hs, ↓reduceIte, ↓nm_s, ↓lk_s, ↓pc_s, z_add, z_sub, z_mul, z_neg, z_le, z_lt, z_eq, z_ix, z_vin, z_rem, zc_0, zc_1, zc_2, zc_3, zc_4, zc_5, zc_6, zc_7, zc_8, zc_9, zc_10, zc_12, zc_20, zc_60, zc_80, zc_108, zc_120, zc_185, zc_192, zc_1344, zc_9999, zc_FAR, zc_NEV, ite_T, ite_F, bd_s, bd2_s, rz_z, toNat_cast, mR_at, mR_ne, mu_mR, il_t, il_f, ilt_t, ilt_f, ieq_t, ieq_f, nlt_t]
    · obtain ⟨b2, h1, h2⟩ := ih f (i + 1) b c (by omega) (by omega) (by omega) (by rcases hb with h1 | ⟨h1, h2, h3⟩; exact .inl h1; exact .inr ⟨h1, by omega, h3⟩) (fun v v0 v1 hv0 => by
        by_cases hvi : v = i
        · subst hvi; exact absurd hv0 hs
        · exact hv v v0 (by omega) hv0)
      refine ⟨b2, ?_, h2⟩
      rw [← h1]
      simp (disch := omega) only [f_X6_earliestUnsettled_8, f_X6_earliestUnsettled_49, mW_ne, mW_8, mW_9, c0, ↓reduceIte, ↓nm_s, ↓lk_s, ↓pc_s, z_add, z_sub, z_mul, z_neg, z_le, z_lt, z_eq, z_ix, z_vin, z_rem, zc_0, zc_1, zc_2, zc_3, zc_4, zc_5, zc_6, zc_7, zc_8, zc_9, zc_10, zc_12, zc_20, zc_60, zc_80, zc_108, zc_120, zc_185, zc_192, zc_1344, zc_9999, zc_FAR, zc_NEV, ite_T, ite_F, bd_s, bd2_s, rz_z, toNat_cast, mR_at, mR_ne, mu_mR, il_t, il_f, ilt_t, ilt_f, ieq_t, ieq_f, nlt_t]
