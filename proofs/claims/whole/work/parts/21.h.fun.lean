set_option maxHeartbeats 4000000 in
theorem st_first {M : Mem} {A D : Int → Int} {s : Nat} (hC : Cl M s A) {i a d b x y r c : Int} (f : Nat) (i0 : 0 ≤ i) (i1 : i < A 1) (i2 : A 1 ≤ 20) (hs : A (8 + 5 * i) = a) (hd : A (8 + 5 * i + 1) = d) (hb : A (8 + 5 * i + 4) = b) (s0 : 0 ≤ a) (s1 : a < 9) (d0 : 0 ≤ d) (d1 : d < 9) (b0 : 0 ≤ b) (b1 : b ≤ 1)
    (hx : D a = x) (hy : D d = y) (x0 : -1 ≤ x) (x1 : x ≤ 9) (y0 : -1 ≤ y) (y1 : y ≤ 9) (r0 : 0 ≤ r) (r1 : r ≤ 9) :
    f_X6_placesFirstReachedIn_5 (f + 1) (mR M 10 0 D) s (iZ r) (iZ c) (iZ i) = if b = 0 ∧ x = r - 1 ∧ y = -1 then f_X6_placesFirstReachedIn_5 f (mR M 10 0 (uI D d r)) s (iZ r) (iZ (c + 1)) (iZ (i + 1)) else f_X6_placesFirstReachedIn_5 f (mR M 10 0 D) s (iZ r) (iZ c) (iZ (i + 1)) := by
  obtain ⟨c0, c1, c2, c3, c4, c5, c6, c7, cl, cp⟩ := hC
  obtain ⟨l0, l1, l2, l3, l4⟩ := cl i i0 i1
  rw [hs] at l0
  rw [hd] at l1
  rw [hb] at l4
  by_cases hb1 : b = 0
  · by_cases hx1 : x = r - 1
    · by_cases hy1 : y = -1
      · rw [if_pos ⟨hb1, hx1, hy1⟩]
        simp (disch := omega) only [f_X6_placesFirstReachedIn_5, f_X6_placesFirstReachedIn_75, c1, l0, l1, l4, hx, hy, ↓reduceIte, ↓nm_s, ↓lk_s, ↓pc_s, z_add, z_sub, z_mul, z_neg, z_le, z_lt, z_eq, z_ix, z_vin, z_rem, zc_0, zc_1, zc_2, zc_3, zc_4, zc_5, zc_6, zc_7, zc_8, zc_9, zc_10, zc_12, zc_20, zc_60, zc_80, zc_108, zc_120, zc_185, zc_192, zc_1344, zc_9999, zc_FAR, zc_NEV, ite_T, ite_F, bd_s, bd2_s, rz_z, toNat_cast, mR_at, mR_ne, mu_mR, il_t, il_f, ilt_t, ilt_f, ieq_t, ieq_f, nlt_t]
      · rw [if_neg (fun hc => hy1 hc.2.2)]
        simp (disch := omega) only [f_X6_placesFirstReachedIn_5, f_X6_placesFirstReachedIn_75, c1, l0, l1, l4, hx, hy, ↓reduceIte, ↓nm_s, ↓lk_s, ↓pc_s, z_add, z_sub, z_mul, z_neg, z_le, z_lt, z_eq, z_ix, z_vin, z_rem, zc_0, zc_1, zc_2, zc_3, zc_4, zc_5, zc_6, zc_7, zc_8, zc_9, zc_10, zc_12, zc_20, zc_60, zc_80, zc_108, zc_120, zc_185, zc_192, zc_1344, zc_9999, zc_FAR, zc_NEV, ite_T, ite_F, bd_s, bd2_s, rz_z, toNat_cast, mR_at, mR_ne, mu_mR, il_t, il_f, ilt_t, ilt_f, ieq_t, ieq_f, nlt_t]
    · rw [if_neg (fun hc => hx1 hc.2.1)]
      simp (disch := omega) only [f_X6_placesFirstReachedIn_5, f_X6_placesFirstReachedIn_75, c1, l0, l1, l4, hx, hy, ↓reduceIte, ↓nm_s, ↓lk_s, ↓pc_s, z_add, z_sub, z_mul, z_neg, z_le, z_lt, z_eq, z_ix, z_vin, z_rem, zc_0, zc_1, zc_2, zc_3, zc_4, zc_5, zc_6, zc_7, zc_8, zc_9, zc_10, zc_12, zc_20, zc_60, zc_80, zc_108, zc_120, zc_185, zc_192, zc_1344, zc_9999, zc_FAR, zc_NEV, ite_T, ite_F, bd_s, bd2_s, rz_z, toNat_cast, mR_at, mR_ne, mu_mR, il_t, il_f, ilt_t, ilt_f, ieq_t, ieq_f, nlt_t]
  · rw [if_neg (fun hc => hb1 hc.1)]
    simp (disch := omega) only [f_X6_placesFirstReachedIn_5, f_X6_placesFirstReachedIn_75, c1, l0, l1, l4, hx, hy, ↓reduceIte, ↓nm_s, ↓lk_s, ↓pc_s, z_add, z_sub, z_mul, z_neg, z_le, z_lt, z_eq, z_ix, z_vin, z_rem, zc_0, zc_1, zc_2, zc_3, zc_4, zc_5, zc_6, zc_7, zc_8, zc_9, zc_10, zc_12, zc_20, zc_60, zc_80, zc_108, zc_120, zc_185, zc_192, zc_1344, zc_9999, zc_FAR, zc_NEV, ite_T, ite_F, bd_s, bd2_s, rz_z, toNat_cast, mR_at, mR_ne, mu_mR, il_t, il_f, ilt_t, ilt_f, ieq_t, ieq_f, nlt_t]
def cK (D : Int → Int) : Int := sF (fun v => if D v = -1 then 0 else 1) 9 0
def lv' (e : Int → Int) (r v : Int) : Int := if e v ≤ r then e v else -1
theorem eS_closed {p h : Int} {A : Int → Int} (hO : Ok p h A) {o k : Int} (o0 : 0 ≤ o) (oP : o < A 0) (k0 : 0 ≤ k) (k1 : k < A 1) (ku : uA A k) (hs : eS A o (sA A k) < 1000000) : eS A o (dA A k) ≤ eS A o (sA A k) + 1 := by
  have hr := (Gr_S hO).2.2.1 k k0 k1
  have o2 := hO.2.1
  rcases eS_spec hO o0 oP hr.1 (by omega) with ⟨q1, q2⟩ | ⟨q1, ⟨m, q2⟩, q3⟩
  · omega
  · rcases eS_spec hO o0 oP hr.2.2.1 (by omega) with ⟨q1, q2⟩ | ⟨q4, q5, q6⟩
    · exact absurd ⟨k, _, k0, k1, ku, rfl, by assumption, rfl⟩ (q2 (m + 1) _)
    · exact q6 (m + 1) _ ⟨k, _, k0, k1, ku, rfl, by assumption, rfl⟩
theorem eS_from {p h : Int} {A : Int → Int} (hO : Ok p h A) {o r v : Int} (o0 : 0 ≤ o) (oP : o < A 0) (v0 : 0 ≤ v) (v1 : v < 9) (hr : 1 ≤ r) (hv : eS A o v = r) (hr9 : r ≤ 9) : ∃ k, 0 ≤ k ∧ k < A 1 ∧ uA A k ∧ dA A k = v ∧ eS A o (sA A k) = r - 1 := by
  have o2 := hO.2.1
  rcases eS_spec hO o0 oP v0 v1 with ⟨q1, q2⟩ | ⟨q1, ⟨m, q2⟩, q3⟩
  · omega
  · have hm := RcS_n _ _ _ q2
    cases m with
    | zero => omega
    | succ m =>
      obtain ⟨k, t2, k0, k1, ku, kd, hR, he⟩ := q2
      have ht := RcS_n _ _ _ hR
      have hg := (Gr_S hO).2.2.1 k k0 k1
      refine ⟨k, k0, k1, ku, kd, ?_⟩
      rcases eS_spec hO o0 oP hg.1 (by omega) with ⟨e1, e2⟩ | ⟨e1, e2, e3⟩
      · exact absurd hR (e2 _ _)
      · have h1 := e3 _ _ hR
        have h2 := eS_closed hO o0 oP k0 k1 ku e1
        rw [kd] at h2
        omega
theorem g_first_5 {p h : Int} {M : Mem} {A : Int → Int} {s : Nat} (hO : Ok p h A) (hC : Cl M s A) {o r : Int} (o0 : 0 ≤ o) (oP : o < A 0) (r0 : 1 ≤ r) (r1 : r ≤ 9) :
    ∀ (n f : Nat) (i c : Int) (D : Int → Int), 0 ≤ i → i + n = A 1 → n < f → (∀ v, 0 ≤ v → v < 9 → D v = lv' (eS A o) (r - 1) v ∨ (D v = r ∧ eS A o v = r)) →
    ∃ D2 c2, f_X6_placesFirstReachedIn_5 f (mR M 10 0 D) s (iZ r) (iZ c) (iZ i) = some (iZ c2, mR M 10 0 D2) ∧ (∀ v, 0 ≤ v → v < 9 → D2 v = lv' (eS A o) (r - 1) v ∨ (D2 v = r ∧ eS A o v = r)) ∧ c2 - c = cK D2 - cK D ∧
      (∀ j, D j ≠ -1 → D2 j = D j) ∧ ∀ k, i ≤ k → k < A 1 → uA A k → eS A o (sA A k) = r - 1 → D2 (dA A k) ≠ -1 := by
  obtain ⟨o1, o2, o3, o4, o5, o6, o7, o8, o9, o10, o11, ol, ob, op, oc⟩ := id hO
  intro n
  induction n with
  | zero =>
    intro f i c D i0 hi hf hD
    obtain ⟨f, rfl⟩ : ∃ g, f = g + 1 := ⟨f - 1, by omega⟩
    obtain ⟨c0, c1, c2, c3, c4, c5, c6, c7, cl, cp⟩ := hC
    refine ⟨D, c, ?_, hD, by omega, fun j _ => rfl, fun k k0 k1 => by omega⟩
    simp (disch := omega) only [f_X6_placesFirstReachedIn_5, c1, ↓reduceIte, ↓nm_s, ↓lk_s, ↓pc_s, z_add, z_sub, z_mul, z_neg, z_le, z_lt, z_eq, z_ix, z_vin, z_rem, zc_0, zc_1, zc_2, zc_3, zc_4, zc_5, zc_6, zc_7, zc_8, zc_9, zc_10, zc_12, zc_20, zc_60, zc_80, zc_108, zc_120, zc_185, zc_192, zc_1344, zc_9999, zc_FAR, zc_NEV, ite_T, ite_F, bd_s, bd2_s, rz_z, toNat_cast, mR_at, mR_ne, mu_mR, il_t, il_f, ilt_t, ilt_f, ieq_t, ieq_f, nlt_t]
  | succ n ih =>
    intro f i c D i0 hi hf hD
    obtain ⟨f, rfl⟩ : ∃ g, f = g + 1 := ⟨f - 1, by omega⟩
    have hk := ol i i0 (by omega)
    unfold lnk at hk
    have hb : ∀ v, 0 ≤ v → v < 9 → -1 ≤ D v ∧ D v ≤ 9 := fun v v0 v1 => by
      have := hD v v0 v1
      have := eS_le hO o0 oP v0 v1
      unfold lv' at *
      split at * <;> omega
    have e1 := hb (A (8 + 5 * i)) (by omega) (by omega)
    have e2 := hb (A (8 + 5 * i + 1)) (by omega) (by omega)
    have hst := st_first (D := D) (r := r) (c := c) hC f i0 (by omega) o4 rfl rfl rfl (by omega) (by omega) (by omega) (by omega) (by omega) (by omega) rfl rfl e1.1 e1.2 e2.1 e2.2 (by omega) r1
    have hds := hD (A (8 + 5 * i)) (by omega) (by omega)
    have hdd := hD (A (8 + 5 * i + 1)) (by omega) (by omega)
    have hes := eS_le hO o0 oP (v := A (8 + 5 * i)) (by omega) (by omega)
    have hed := eS_le hO o0 oP (v := A (8 + 5 * i + 1)) (by omega) (by omega)
    by_cases hc : A (8 + 5 * i + 4) = 0 ∧ D (A (8 + 5 * i)) = r - 1 ∧ D (A (8 + 5 * i + 1)) = -1
    · rw [if_pos hc] at hst
      obtain ⟨q1, q2, q3⟩ := hc
      have hsr : eS A o (A (8 + 5 * i)) = r - 1 := by
        unfold lv' at hds
        split at hds <;> omega
      have hcl : eS A o (A (8 + 5 * i + 1)) ≤ eS A o (A (8 + 5 * i)) + 1 := eS_closed hO o0 oP i0 (by omega) q1 (show eS A o (A (8 + 5 * i)) < _ by omega)
      have hdr : eS A o (A (8 + 5 * i + 1)) = r := by
        unfold lv' at hdd
        split at hdd <;> omega
      obtain ⟨D2, c2, h1, h2, h3, h4, h5⟩ := ih f (i + 1) (c + 1) (uI D (A (8 + 5 * i + 1)) r) (by omega) (by omega) (by omega) (fun v v0 v1 => by
        by_cases hv : v = A (8 + 5 * i + 1)
        · rw [hv, uI_eq]; exact .inr ⟨rfl, hdr⟩
        · rw [uI_ne _ _ hv]; exact hD v v0 v1)
      have hcK : cK (uI D (A (8 + 5 * i + 1)) r) = cK D + 1 := by
        unfold cK
        rw [sF_up (f := fun v => if D v = -1 then 0 else 1) (e := A (8 + 5 * i + 1)) (fun j hj => by show (if uI D _ r j = -1 then (0 : Int) else 1) = _; rw [uI_ne _ _ hj]) 9 0 (by omega) (by omega), uI_eq, q3, if_pos rfl, if_neg (by omega)]
        omega
      refine ⟨D2, c2, hst.trans h1, h2, by omega, fun j hj => ?_, fun k k0 k1 ku ks => ?_⟩
      · have hjd : j ≠ A (8 + 5 * i + 1) := by intro hh; rw [hh] at hj; exact hj q3
        have := h4 j (by rw [uI_ne _ _ hjd]; exact hj)
        rw [uI_ne _ _ hjd] at this
        exact this
      · by_cases hki : k = i
        · subst hki
          have := h4 (A (8 + 5 * k + 1)) (by rw [uI_eq]; omega)
          rw [uI_eq] at this
          show D2 (A (8 + 5 * k + 1)) ≠ -1
          omega
        · exact h5 k (by omega) k1 ku ks
    · rw [if_neg hc] at hst
      obtain ⟨D2, c2, h1, h2, h3, h4, h5⟩ := ih f (i + 1) c D (by omega) (by omega) (by omega) hD
      refine ⟨D2, c2, hst.trans h1, h2, h3, h4, fun k k0 k1 ku ks => ?_⟩
      by_cases hki : k = i
      · subst hki
        have ks : eS A o (A (8 + 5 * k)) = r - 1 := ks
        show D2 (A (8 + 5 * k + 1)) ≠ -1
        have hDs : D (A (8 + 5 * k)) = r - 1 := by
          unfold lv' at hds
          split at hds <;> omega
        have hDd : D (A (8 + 5 * k + 1)) ≠ -1 := fun hh => hc ⟨ku, hDs, hh⟩
        rw [h4 _ hDd]
        exact hDd
      · exact h5 k (by omega) k1 ku ks
theorem g_spread_33 {p h : Int} {M : Mem} {A : Int → Int} {s : Nat} (hO : Ok p h A) (hC : Cl M s A) {o : Int} (o0 : 0 ≤ o) (oP : o < A 0) :
    ∀ (n f : Nat) (r c : Int) (D : Int → Int), 1 ≤ r → r + n = A 0 → n < f → (∀ v, 0 ≤ v → v < 9 → D v = lv' (eS A o) (r - 1) v) → c = cK D →
    ∃ D2, f_X6_spreadFrom_33 f (mR M 10 0 D) s (iZ c) (iZ r) = some (iZ (cK D2), mR M 10 0 D2) ∧ ∀ v, 0 ≤ v → v < 9 → D2 v = lv' (eS A o) (A 0 - 1) v := by
  obtain ⟨o1, o2, o3, o4, o5, o6, o7, o8, o9, o10, o11, ol, ob, op, oc⟩ := id hO
  have hC2 := hC
  obtain ⟨c0, c1, c2, c3, c4, c5, c6, c7, cl, cp⟩ := hC2
  intro n
  induction n with
  | zero =>
    intro f r c D r0 hi hf hD hc
    obtain ⟨f, rfl⟩ : ∃ g, f = g + 1 := ⟨f - 1, by omega⟩
    refine ⟨D, ?_, fun v v0 v1 => by rw [hD v v0 v1, show r = A 0 by omega]⟩
    rw [← hc]
    simp (disch := omega) only [f_X6_spreadFrom_33, c0, ↓reduceIte, ↓nm_s, ↓lk_s, ↓pc_s, z_add, z_sub, z_mul, z_neg, z_le, z_lt, z_eq, z_ix, z_vin, z_rem, zc_0, zc_1, zc_2, zc_3, zc_4, zc_5, zc_6, zc_7, zc_8, zc_9, zc_10, zc_12, zc_20, zc_60, zc_80, zc_108, zc_120, zc_185, zc_192, zc_1344, zc_9999, zc_FAR, zc_NEV, ite_T, ite_F, bd_s, bd2_s, rz_z, toNat_cast, mR_at, mR_ne, mu_mR, il_t, il_f, ilt_t, ilt_f, ieq_t, ieq_f, nlt_t]
  | succ n ih =>
    intro f r c D r0 hi hf hD hc
    obtain ⟨f, rfl⟩ : ∃ g, f = g + 1 := ⟨f - 1, by omega⟩
    obtain ⟨D2, m, h1, h2, h3, h4, h5⟩ := g_first_5 hO hC o0 oP r0 (by omega : r ≤ 9) (A 1).toNat FU 0 0 D (by omega) (by omega) (by unfold FU; omega) (fun v v0 v1 => .inl (hD v v0 v1))
    have hpf : f_X6_placesFirstReachedIn (mR M 10 0 D) s (iZ r) = some (iZ m, mR M 10 0 D2) := by
      unfold f_X6_placesFirstReachedIn
      simp only [zc_0]
      exact h1
    obtain ⟨D3, e1, e2⟩ := ih f (r + 1) (c + m) D2 (by omega) (by omega) (by omega) (fun v v0 v1 => by
      have hv := h2 v v0 v1
      have hle := eS_le hO o0 oP v0 v1
      rw [show r + 1 - 1 = r by omega]
      by_cases her : eS A o v = r
      · obtain ⟨k, k0, k1, ku, kd, ks⟩ := eS_from hO o0 oP v0 v1 r0 her (by omega)
        have := h5 k k0 k1 ku ks
        rw [kd] at this
        unfold lv' at hv ⊢
        rw [if_pos (by omega)]
        rw [if_neg (by omega)] at hv
        omega
      · unfold lv' at hv ⊢
        by_cases hlt : eS A o v ≤ r - 1
        · rw [if_pos hlt] at hv; rw [if_pos (by omega)]; omega
        · rw [if_neg hlt] at hv; rw [if_neg (by omega)]; omega) (by omega)
    refine ⟨D3, ?_, e2⟩
    rw [← e1]
    simp (disch := omega) only [f_X6_spreadFrom_33, c0, hpf, ↓reduceIte, ↓nm_s, ↓lk_s, ↓pc_s, z_add, z_sub, z_mul, z_neg, z_le, z_lt, z_eq, z_ix, z_vin, z_rem, zc_0, zc_1, zc_2, zc_3, zc_4, zc_5, zc_6, zc_7, zc_8, zc_9, zc_10, zc_12, zc_20, zc_60, zc_80, zc_108, zc_120, zc_185, zc_192, zc_1344, zc_9999, zc_FAR, zc_NEV, ite_T, ite_F, bd_s, bd2_s, rz_z, toNat_cast, mR_at, mR_ne, mu_mR, il_t, il_f, ilt_t, ilt_f, ieq_t, ieq_f, nlt_t]
def sv (e : Int) : Int := if e = 1000000 then -1 else e
noncomputable def sReach (A : Int → Int) (o : Int) : Int := sF (fun v => if eS A o v = 1000000 then 0 else 1) 9 0
theorem sF_cap {f : Int → Int} {P : Int} (h1 : ∀ v, f v ≤ 1) (h0 : ∀ v, P ≤ v → v < 9 → f v ≤ 0) : ∀ (n : Nat) (i : Int), i + n ≤ 9 → sF f n i ≤ if i ≤ P then P - i else 0 := by
  intro n
  induction n with
  | zero => intro i _; simp only [sF]; split <;> omega
  | succ n ih =>
    intro i hi
    have := ih (i + 1) (by omega)
    unfold sF
    by_cases hP : P ≤ i
    · have := h0 i hP (by omega)
      split at * <;> split <;> omega
    · have h8 := h1 i
      rw [if_pos (by omega)] at this ⊢
      omega
theorem eS_leP {p h : Int} {A : Int → Int} (hO : Ok p h A) {o v : Int} (o0 : 0 ≤ o) (oP : o < A 0) (v0 : 0 ≤ v) (v1 : v < 9) : eS A o v = 1000000 ∨ (0 ≤ eS A o v ∧ eS A o v ≤ A 0 - 1 ∧ v < A 0) := by
  have o2 := hO.2.1
  obtain ⟨D, i1, i2, h3⟩ := Ea_ex (u := uA A) (Gr_S hO) o0 oP (F := 1000000) (h := 0) (by omega)
  have hlow := i1.low (Gr_S hO) o0 oP (by omega) i2
  have hin : ∀ w, 0 ≤ w → w < 9 → D w < 1000000 → w < A 0 := fun w w0 w1 hD => by
    obtain ⟨-, -, m, hm⟩ := (i1.2 w w0 w1).2 hD
    exact (hlow _ _ _ hm).2.1
  rw [← EaS.is hO o0 oP v0 v1 (h3 v v0 v1)]
  have h5 := i1.2 v v0 v1
  by_cases hD : D v < 1000000
  · have h6 := h5.2 hD
    have hcap := sF_cap (f := fun v => if D v < 1000000 then 1 else 0) (P := A 0) (fun w => by show (if D w < 1000000 then (1 : Int) else 0) ≤ 1; split <;> omega) (fun w wP w9 => by
      show (if D w < 1000000 then (1 : Int) else 0) ≤ 0
      rw [if_neg (fun hh => by have := hin w (by omega) w9 hh; omega)]
      exact Int.le_refl 0) 9 0 (by omega)
    have hcN : cN 1000000 D ≤ A 0 := by
      unfold cN
      rw [if_pos (by omega)] at hcap
      omega
    have := hin v v0 v1 hD
    omega
  · omega
theorem g_spread_2 {M : Mem} {s : Nat} {o : Int} (o0 : 0 ≤ o) (o1 : o < 9) : ∀ (n f : Nat) (i : Int) (D : Int → Int), 0 ≤ i → i + n = 9 → n < f → (∀ v, 0 ≤ v → v < i → D v = -1) →
    ∃ D2, f_X6_spreadFrom_2 f (mR M 10 0 D) s (iZ o) (iZ i) = f_X6_spreadFrom_33 FU (mR M 10 0 (uI D2 o 0)) s (iZ 1) (iZ 1) ∧ ∀ v, 0 ≤ v → v < 9 → D2 v = -1 := by
  intro n
  induction n with
  | zero =>
    intro f i D i0 hi hf hR
    obtain ⟨f, rfl⟩ : ∃ g, f = g + 1 := ⟨f - 1, by omega⟩
    refine ⟨D, ?_, fun v v0 v1 => hR v v0 (by omega)⟩
    simp (disch := omega) only [f_X6_spreadFrom_2, ↓reduceIte, ↓nm_s, ↓lk_s, ↓pc_s, z_add, z_sub, z_mul, z_neg, z_le, z_lt, z_eq, z_ix, z_vin, z_rem, zc_0, zc_1, zc_2, zc_3, zc_4, zc_5, zc_6, zc_7, zc_8, zc_9, zc_10, zc_12, zc_20, zc_60, zc_80, zc_108, zc_120, zc_185, zc_192, zc_1344, zc_9999, zc_FAR, zc_NEV, ite_T, ite_F, bd_s, bd2_s, rz_z, toNat_cast, mR_at, mR_ne, mu_mR, il_t, il_f, ilt_t, ilt_f, ieq_t, ieq_f, nlt_t]
  | succ n ih =>
    intro f i D i0 hi hf hR
    obtain ⟨f, rfl⟩ : ∃ g, f = g + 1 := ⟨f - 1, by omega⟩
    obtain ⟨D2, h1, h2⟩ := ih f (i + 1) (uI D i (-1)) (by omega) (by omega) (by omega) (fun v v0 v1 => by
      by_cases hv : v = i
      · rw [hv, uI_eq]
      · rw [uI_ne _ _ hv]; exact hR v v0 (by omega))
    refine ⟨D2, ?_, h2⟩
    rw [← h1]
    simp (disch := omega) only [f_X6_spreadFrom_2, ↓reduceIte, ↓nm_s, ↓lk_s, ↓pc_s, z_add, z_sub, z_mul, z_neg, z_le, z_lt, z_eq, z_ix, z_vin, z_rem, zc_0, zc_1, zc_2, zc_3, zc_4, zc_5, zc_6, zc_7, zc_8, zc_9, zc_10, zc_12, zc_20, zc_60, zc_80, zc_108, zc_120, zc_185, zc_192, zc_1344, zc_9999, zc_FAR, zc_NEV, ite_T, ite_F, bd_s, bd2_s, rz_z, toNat_cast, mR_at, mR_ne, mu_mR, il_t, il_f, ilt_t, ilt_f, ieq_t, ieq_f, nlt_t]
theorem eS_o {p h : Int} {A : Int → Int} (hO : Ok p h A) {o v : Int} (o0 : 0 ≤ o) (oP : o < A 0) (v0 : 0 ≤ v) (v1 : v < 9) : eS A o v ≤ 0 ↔ v = o := by
  rcases eS_spec hO o0 oP v0 v1 with ⟨q1, q2⟩ | ⟨q1, ⟨m, q2⟩, q3⟩
  · constructor
    · omega
    · rintro rfl; exact absurd ⟨rfl, rfl⟩ (q2 0 0)
  · constructor
    · intro hle
      have := RcS_n _ _ _ q2
      obtain rfl : m = 0 := by omega
      exact q2.1
    · rintro rfl; exact q3 0 0 ⟨rfl, rfl⟩
theorem g_spread {p h : Int} {M : Mem} {A : Int → Int} {s : Nat} (hO : Ok p h A) (hC : Cl M s A) {o : Int} (o0 : 0 ≤ o) (oP : o < A 0) :
    ∃ D, f_X6_spreadFrom M s (iZ o) = some (iZ (sReach A o), mR M 10 0 D) ∧ ∀ v, 0 ≤ v → v < 9 → D v = sv (eS A o v) := by
  have o1 := hO.1
  have o2 := hO.2.1
  obtain ⟨R, -, -, hMR⟩ := mR_self M 10 0
  obtain ⟨D, h1, h2⟩ := g_spread_2 (M := M) (s := s) o0 (by omega : o < 9) 9 FU 0 R (by omega) (by omega) (by unfold FU; omega) (fun v v0 v1 => by omega)
  obtain ⟨D2, e1, e2⟩ := g_spread_33 hO hC o0 oP (A 0 - 1).toNat FU 1 1 (uI D o 0) (by omega) (by omega) (by unfold FU; omega) (fun v v0 v1 => by
    have := eS_o hO o0 oP v0 v1
    have := eS_le hO o0 oP v0 v1
    unfold lv'
    by_cases hv : v = o
    · rw [if_pos (by omega), hv, uI_eq]; subst hv; omega
    · rw [if_neg (by omega), uI_ne _ _ hv]; exact h2 v v0 v1) (by
      unfold cK
      rw [sF_up (f := fun v => if D v = -1 then 0 else 1) (e := o) (fun j hj => by show (if uI D _ 0 j = -1 then (0 : Int) else 1) = _; rw [uI_ne _ _ hj]) 9 0 (by omega) (by omega), uI_eq, h2 o o0 (by omega), if_pos rfl, if_neg (by omega), sF_cg (g := fun _ => 0) 9 0 (fun k k0 k1 => by show (if D k = -1 then (0 : Int) else 1) = 0; rw [h2 k k0 (by omega), if_pos rfl])]
      simp [sF])
  have hD2 : ∀ v, 0 ≤ v → v < 9 → D2 v = sv (eS A o v) := fun v v0 v1 => by
    rw [e2 v v0 v1]
    have := eS_leP hO o0 oP v0 v1
    unfold lv' sv
    by_cases hF : eS A o v = 1000000
    · rw [if_pos hF, if_neg (by omega)]
    · rw [if_neg hF, if_pos (by omega)]
  refine ⟨D2, ?_, hD2⟩
  have hcK : cK D2 = sReach A o := sF_cg 9 0 (fun k k0 k1 => by
    show (if D2 k = -1 then (0 : Int) else 1) = if eS A o k = 1000000 then 0 else 1
    rw [hD2 k k0 (by omega)]
    have := eS_le hO o0 oP k0 (by omega)
    unfold sv
    by_cases hF : eS A o k = 1000000
    · rw [if_pos hF, if_pos rfl, if_pos hF]
    · rw [if_neg hF, if_neg (by omega), if_neg hF])
  rw [← hcK, ← e1, ← h1, ← hMR]
  rfl
theorem g_stepsBetween {p h : Int} {M : Mem} {A : Int → Int} {s : Nat} (hO : Ok p h A) (hC : Cl M s A) {o w : Int} (o0 : 0 ≤ o) (oP : o < A 0) (w0 : 0 ≤ w) (w1 : w < 9) :
    ∃ D, f_X6_stepsBetween M s (iZ o) (iZ w) = some (iZ (sv (eS A o w)), mR M 10 0 D) := by
  obtain ⟨D, h1, h2⟩ := g_spread hO hC o0 oP
  refine ⟨D, ?_⟩
  unfold f_X6_stepsBetween
  rw [h1, ← h2 w w0 w1]
  simp (disch := omega) only [↓reduceIte, ↓nm_s, ↓lk_s, ↓pc_s, z_add, z_sub, z_mul, z_neg, z_le, z_lt, z_eq, z_ix, z_vin, z_rem, zc_0, zc_1, zc_2, zc_3, zc_4, zc_5, zc_6, zc_7, zc_8, zc_9, zc_10, zc_12, zc_20, zc_60, zc_80, zc_108, zc_120, zc_185, zc_192, zc_1344, zc_9999, zc_FAR, zc_NEV, ite_T, ite_F, bd_s, bd2_s, rz_z, toNat_cast, mR_at, mR_ne, mu_mR, il_t, il_f, ilt_t, ilt_f, ieq_t, ieq_f, nlt_t]
/-- reached in the one way if in the other -/
theorem eT_eS {p h : Int} {A : Int → Int} (hO : Ok p h A) {o t v : Int} (o0 : 0 ≤ o) (oP : o < A 0) (t1 : t ≤ 900000) (v0 : 0 ≤ v) (v1 : v < 9) : eT A o t v = 1000000 ↔ eS A o v = 1000000 := by
  have hTS : ∀ n v t2, Rc (A 1) (sA A) (dA A) (uA A) (gT A) o t n v t2 → ∃ t3, RcS A o n v t3 := by
    intro n
    induction n with
    | zero => rintro v t2 ⟨rfl, rfl⟩; exact ⟨0, rfl, rfl⟩
    | succ n ih =>
      rintro v t2 ⟨k, t4, k0, k1, ku, kd, hR, -⟩
      obtain ⟨t5, h5⟩ := ih _ _ hR
      exact ⟨_, k, t5, k0, k1, ku, kd, h5, rfl⟩
  have hST : ∀ n v t2, RcS A o n v t2 → ∃ t3, Rc (A 1) (sA A) (dA A) (uA A) (gT A) o t n v t3 := by
    intro n
    induction n with
    | zero => rintro v t2 ⟨rfl, rfl⟩; exact ⟨t, rfl, rfl⟩
    | succ n ih =>
      rintro v t2 ⟨k, t4, k0, k1, ku, kd, hR, -⟩
      obtain ⟨t5, h5⟩ := ih _ _ hR
      exact ⟨_, k, t5, k0, k1, ku, kd, h5, rfl⟩
  rcases eT_spec hO o0 oP t1 v0 v1 with ⟨a1, a2⟩ | ⟨a1, ⟨n, a2⟩, a3⟩
  · rcases eS_spec hO o0 oP v0 v1 with ⟨b1, b2⟩ | ⟨b1, ⟨m, b2⟩, b3⟩
    · exact ⟨fun _ => b1, fun _ => a1⟩
    · obtain ⟨t3, h3⟩ := hST _ _ _ b2; exact absurd h3 (a2 _ _)
  · rcases eS_spec hO o0 oP v0 v1 with ⟨b1, b2⟩ | ⟨b1, ⟨m, b2⟩, b3⟩
    · obtain ⟨t3, h3⟩ := hTS _ _ _ a2; exact absurd h3 (b2 _ _)
    · exact ⟨fun hh => by omega, fun hh => by omega⟩
