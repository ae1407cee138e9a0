abbrev IvS (A : Int → Int) (o : Int) (D : Int → Int) : Prop := Iv (A 1) 1 (sA A) (dA A) (uA A) gO o 0 1000000 D
abbrev RcS (A : Int → Int) (o : Int) : Nat → Int → Int → Prop := Rc (A 1) (sA A) (dA A) (uA A) gO o 0
def LoS (A : Int → Int) (o : Int) (r : Int) (D : Int → Int) : Prop := ∀ (n : Nat) (v t : Int), n ≤ r → RcS A o n v t → D v ≤ t
theorem RcS_n {A : Int → Int} {o : Int} : ∀ (n : Nat) (v t : Int), RcS A o n v t → t = n := by
  intro n
  induction n with
  | zero => rintro v t ⟨-, rfl⟩; rfl
  | succ n ih =>
    rintro v t ⟨k, t2, -, -, -, -, hR, rfl⟩
    rw [ih _ _ hR]
    show (n : Int) + 1 = _
    omega
set_option maxHeartbeats 4000000 in
theorem st_f42 {M : Mem} {A D : Int → Int} (k33 : Mem → Int32 → Int32 → Option (Int32 × Mem)) (hA : M 21 0 = rz A) {i s d b x y g r : Int} (f : Nat) (i0 : 0 ≤ i) (i1 : i < A 1) (i2 : A 1 ≤ 20) (hs : A (8 + 5 * i) = s) (hd : A (8 + 5 * i + 1) = d) (hb : A (8 + 5 * i + 4) = b) (s0 : 0 ≤ s) (s1 : s < 9) (d0 : 0 ≤ d) (d1 : d < 9) (b0 : 0 ≤ b) (b1 : b ≤ 1)
    (hx : D s = x) (hy : D d = y) (x0 : 0 ≤ x) (x1 : x ≤ 1000000) (y0 : 0 ≤ y) (y1 : y ≤ 1000000) :
    f_X8_fewest_42 k33 (f + 1) (mR M 27 0 D) (iZ g) (iZ r) (iZ i) = if b = 0 ∧ x + 1 < y then f_X8_fewest_42 k33 f (mR M 27 0 (uI D d (x + 1))) (iZ g) (iZ r) (iZ (i + 1)) else f_X8_fewest_42 k33 f (mR M 27 0 D) (iZ g) (iZ r) (iZ (i + 1)) := by
  have hself : uI D d y = D := by rw [← hy]; exact uI_self D d
  by_cases hb1 : b = 0
  · by_cases ht : x + 1 < y
    · rw [if_pos ⟨hb1, ht⟩]
      simp (disch := omega) only [f_X8_fewest_42, f_X8_fewest_91, hA, rz_1, hs, hd, hb, hx, hy, ↓reduceIte, ↓nm_s, ↓lk_s, ↓pc_s, z_add, z_sub, z_mul, z_neg, z_le, z_lt, z_eq, z_ix, z_vin, z_rem, zc_0, zc_1, zc_2, zc_3, zc_4, zc_5, zc_6, zc_7, zc_8, zc_9, zc_10, zc_12, zc_20, zc_60, zc_80, zc_108, zc_120, zc_185, zc_192, zc_1344, zc_9999, zc_FAR, zc_NEV, ite_T, ite_F, bd_s, bd2_s, rz_z, toNat_cast, mR_at, mR_ne, mu_mR, il_t, il_f, ilt_t, ilt_f, ieq_t, ieq_f, nlt_t]
    · rw [if_neg (fun hc => ht hc.2)]
      simp (disch := omega) only [f_X8_fewest_42, f_X8_fewest_91, hA, rz_1, hs, hd, hb, hx, hy, hself, ↓reduceIte, ↓nm_s, ↓lk_s, ↓pc_s, z_add, z_sub, z_mul, z_neg, z_le, z_lt, z_eq, z_ix, z_vin, z_rem, zc_0, zc_1, zc_2, zc_3, zc_4, zc_5, zc_6, zc_7, zc_8, zc_9, zc_10, zc_12, zc_20, zc_60, zc_80, zc_108, zc_120, zc_185, zc_192, zc_1344, zc_9999, zc_FAR, zc_NEV, ite_T, ite_F, bd_s, bd2_s, rz_z, toNat_cast, mR_at, mR_ne, mu_mR, il_t, il_f, ilt_t, ilt_f, ieq_t, ieq_f, nlt_t]
  · rw [if_neg (fun hc => hb1 hc.1)]
    simp (disch := omega) only [f_X8_fewest_42, f_X8_fewest_91, hA, rz_1, hs, hd, hb, hx, hy, hself, ↓reduceIte, ↓nm_s, ↓lk_s, ↓pc_s, z_add, z_sub, z_mul, z_neg, z_le, z_lt, z_eq, z_ix, z_vin, z_rem, zc_0, zc_1, zc_2, zc_3, zc_4, zc_5, zc_6, zc_7, zc_8, zc_9, zc_10, zc_12, zc_20, zc_60, zc_80, zc_108, zc_120, zc_185, zc_192, zc_1344, zc_9999, zc_FAR, zc_NEV, ite_T, ite_F, bd_s, bd2_s, rz_z, toNat_cast, mR_at, mR_ne, mu_mR, il_t, il_f, ilt_t, ilt_f, ieq_t, ieq_f, nlt_t]
theorem Iv.nn {L c : Int} {s d : Int → Int} {u : Int → Prop} {g : Int → Int → Int} {o h F : Int} {D : Int → Int} (hI : Iv L c s d u g o h F D) (hF : 0 ≤ F) (hh : 0 ≤ h) {v : Int} (v0 : 0 ≤ v) (v1 : v < 9) : 0 ≤ D v := by
  have e1 := hI.2 v v0 v1
  by_cases hs : D v < F
  · have := e1.2 hs; omega
  · omega
theorem g_X8_fewest_42 {p h : Int} {M : Mem} {A : Int → Int} (hO : Ok p h A) (hA : M 21 0 = rz A) {o w r : Int} (k33 : Mem → Int32 → Int32 → Option (Int32 × Mem)) :
    ∀ (n f : Nat) (i : Int) (D : Int → Int), 0 ≤ i → i + n = A 1 → n < f → IvS A o D →
    ∃ D2, f_X8_fewest_42 k33 f (mR M 27 0 D) (iZ w) (iZ r) (iZ i) = k33 (mR M 27 0 D2) (iZ w) (iZ (r + 1)) ∧ IvS A o D2 ∧ (∀ v, 0 ≤ v → v < 9 → D2 v ≤ D v) ∧
      ∀ k, i ≤ k → k < A 1 → uA A k → D (sA A k) < 1000000 → D2 (dA A k) ≤ D (sA A k) + 1 := by
  have hG := Gr_S hO
  obtain ⟨o1, o2, o3, o4, o5, o6, o7, o8, o9, o10, o11, ol, ob, op, oc⟩ := id hO
  intro n
  induction n with
  | zero =>
    intro f i D i0 hi hf hI
    obtain ⟨f, rfl⟩ : ∃ g, f = g + 1 := ⟨f - 1, by omega⟩
    refine ⟨D, ?_, hI, fun v _ _ => Int.le_refl _, fun k k0 k1 => by omega⟩
    simp (disch := omega) only [f_X8_fewest_42, hA, rz_1, ↓reduceIte, ↓nm_s, ↓lk_s, ↓pc_s, z_add, z_sub, z_mul, z_neg, z_le, z_lt, z_eq, z_ix, z_vin, z_rem, zc_0, zc_1, zc_2, zc_3, zc_4, zc_5, zc_6, zc_7, zc_8, zc_9, zc_10, zc_12, zc_20, zc_60, zc_80, zc_108, zc_120, zc_185, zc_192, zc_1344, zc_9999, zc_FAR, zc_NEV, ite_T, ite_F, bd_s, bd2_s, rz_z, toNat_cast, mR_at, mR_ne, mu_mR, il_t, il_f, ilt_t, ilt_f, ieq_t, ieq_f, nlt_t]
  | succ n ih =>
    intro f i D i0 hi hf hI
    obtain ⟨f, rfl⟩ : ∃ g, f = g + 1 := ⟨f - 1, by omega⟩
    have hk := ol i i0 (by omega)
    unfold lnk at hk
    have e1 := hI.2 (A (8 + 5 * i)) (by omega) (by omega)
    have e2 := hI.2 (A (8 + 5 * i + 1)) (by omega) (by omega)
    have hst := st_f42 (A := A) (D := D) k33 hA f (g := w) (r := r) i0 (by omega) o4 rfl rfl rfl (by omega) (by omega) (by omega) (by omega) (by omega) (by omega) rfl rfl (hI.nn (by omega) (by omega) (by omega) (by omega)) e1.1 (hI.nn (by omega) (by omega) (by omega) (by omega)) e2.1
    by_cases hc : A (8 + 5 * i + 4) = 0 ∧ D (A (8 + 5 * i)) + 1 < D (A (8 + 5 * i + 1))
    · rw [if_pos hc] at hst
      have hrx := hI.relax hG (w := 81) (by omega) i0 (by omega) (k := i) hc.1 (show D (A (8 + 5 * i)) < 1000000 by omega) hc.2
      obtain ⟨D2, h1, h2, h3, h4⟩ := ih f (i + 1) (uI D (A (8 + 5 * i + 1)) (D (A (8 + 5 * i)) + 1)) (by omega) (by omega) (by omega) hrx.1
      have hle : ∀ v, uI D (A (8 + 5 * i + 1)) (D (A (8 + 5 * i)) + 1) v ≤ D v := by
        intro v
        by_cases hv : v = A (8 + 5 * i + 1)
        · rw [hv, uI_eq]; omega
        · rw [uI_ne _ _ hv]; exact Int.le_refl _
      refine ⟨D2, hst.trans h1, h2, fun v v0 v1 => Int.le_trans (h3 v v0 v1) (hle v), fun k k0 k1 ku ks => ?_⟩
      by_cases hki : k = i
      · subst hki
        have := h3 (A (8 + 5 * k + 1)) (by omega) (by omega)
        rw [uI_eq] at this
        exact this
      · have := hle (sA A k)
        have := h4 k (by omega) k1 ku (by omega)
        omega
    · rw [if_neg hc] at hst
      obtain ⟨D2, h1, h2, h3, h4⟩ := ih f (i + 1) D (by omega) (by omega) (by omega) hI
      refine ⟨D2, hst.trans h1, h2, h3, fun k k0 k1 ku ks => ?_⟩
      by_cases hki : k = i
      · subst hki
        have := h3 (A (8 + 5 * k + 1)) (by omega) (by omega)
        have ku : A (8 + 5 * k + 4) = 0 := ku
        show D2 (A (8 + 5 * k + 1)) ≤ D (A (8 + 5 * k)) + 1
        by_cases hlt : D (A (8 + 5 * k)) + 1 < D (A (8 + 5 * k + 1))
        · exact absurd ⟨ku, hlt⟩ hc
        · omega
      · exact h4 k (by omega) k1 ku ks
theorem g_X8_fewest_33 {p h : Int} {M : Mem} {A : Int → Int} (hO : Ok p h A) (hA : M 21 0 = rz A) {o w : Int} (w0 : 0 ≤ w) (w1 : w < 9) (o0 : 0 ≤ o) (oP : o < A 0) :
    ∀ (n f : Nat) (r : Int) (D : Int → Int), 0 ≤ r → r + n = 9 → n < f → IvS A o D → LoS A o r D →
    ∃ D2, f_X8_fewest_33 f (mR M 27 0 D) (iZ w) (iZ r) = some (iZ (D2 w), mR M 27 0 D2) ∧ IvS A o D2 ∧ LoS A o 9 D2 := by
  have hG := Gr_S hO
  obtain ⟨o1, o2, o3, o4, o5, o6, o7, o8, o9, o10, o11, ol, ob, op, oc⟩ := id hO
  intro n
  induction n with
  | zero =>
    intro f r D i0 hi hf hI hL
    obtain ⟨f, rfl⟩ : ∃ g, f = g + 1 := ⟨f - 1, by omega⟩
    obtain rfl : r = 9 := by omega
    refine ⟨D, ?_, hI, hL⟩
    simp (disch := omega) only [f_X8_fewest_33, ↓reduceIte, ↓nm_s, ↓lk_s, ↓pc_s, z_add, z_sub, z_mul, z_neg, z_le, z_lt, z_eq, z_ix, z_vin, z_rem, zc_0, zc_1, zc_2, zc_3, zc_4, zc_5, zc_6, zc_7, zc_8, zc_9, zc_10, zc_12, zc_20, zc_60, zc_80, zc_108, zc_120, zc_185, zc_192, zc_1344, zc_9999, zc_FAR, zc_NEV, ite_T, ite_F, bd_s, bd2_s, rz_z, toNat_cast, mR_at, mR_ne, mu_mR, il_t, il_f, ilt_t, ilt_f, ieq_t, ieq_f, nlt_t]
  | succ n ih =>
    intro f r D i0 hi hf hI hL
    obtain ⟨f, rfl⟩ : ∃ g, f = g + 1 := ⟨f - 1, by omega⟩
    obtain ⟨D2, h1, h2, h3, h4⟩ := g_X8_fewest_42 hO hA (w := w) (r := r) (o := o) (f_X8_fewest_33 f) (A 1).toNat FU 0 D (by omega) (by omega) (by unfold FU; omega) hI
    obtain ⟨D3, e1, e2, e3⟩ := ih f (r + 1) D2 (by omega) (by omega) (by omega) h2 (by
      intro m v t hm hR
      cases m with
      | zero =>
        obtain ⟨rfl, rfl⟩ := hR
        exact h2.1
      | succ m =>
        obtain ⟨k, t2, k0, k1, ku, rfl, hR2, rfl⟩ := hR
        have hb := hL m _ _ (by omega) hR2
        have ht := RcS_n _ _ _ hR2
        have := h4 k k0 k1 ku (by omega)
        show _ ≤ t2 + 1
        omega)
    refine ⟨D3, ?_, e2, e3⟩
    unfold f_X8_fewest_33
    simp (disch := omega) only [zc_9, z_le, il_f, ↓reduceIte]
    simp only [zc_0]
    rw [h1, e1]
theorem g_X8_fewest_2 {M : Mem} {o w : Int} (o0 : 0 ≤ o) (o1 : o < 9) : ∀ (n f : Nat) (i : Int) (R : Int → Int), 0 ≤ i → i + n = 9 → n < f → (∀ v, 0 ≤ v → v < i → R v = Iv0 1000000 o 0 v) → ∃ R2, f_X8_fewest_2 f (mR M 27 0 R) (iZ o) (iZ w) (iZ i) = f_X8_fewest_33 FU (mR M 27 0 R2) (iZ w) (iZ 0) ∧ ∀ v, 0 ≤ v → v < 9 → R2 v = Iv0 1000000 o 0 v := by
  intro n
  induction n with
  | zero =>
    intro f i R i0 hi hf hR
    obtain ⟨f, rfl⟩ : ∃ g, f = g + 1 := ⟨f - 1, by omega⟩
    refine ⟨R, ?_, fun v v0 v1 => hR v v0 (by omega)⟩
    simp (disch := omega) only [f_X8_fewest_2, ↓reduceIte, ↓nm_s, ↓lk_s, ↓pc_s, z_add, z_sub, z_mul, z_neg, z_le, z_lt, z_eq, z_ix, z_vin, z_rem, zc_0, zc_1, zc_2, zc_3, zc_4, zc_5, zc_6, zc_7, zc_8, zc_9, zc_10, zc_12, zc_20, zc_60, zc_80, zc_108, zc_120, zc_185, zc_192, zc_1344, zc_9999, zc_FAR, zc_NEV, ite_T, ite_F, bd_s, bd2_s, rz_z, toNat_cast, mR_at, mR_ne, mu_mR, il_t, il_f, ilt_t, ilt_f, ieq_t, ieq_f, nlt_t]
  | succ n ih =>
    intro f i R i0 hi hf hR
    obtain ⟨f, rfl⟩ : ∃ g, f = g + 1 := ⟨f - 1, by omega⟩
    by_cases hio : i = o
    · obtain ⟨R2, h1, h2⟩ := ih f (i + 1) (uI R i 0) (by omega) (by omega) (by omega) (fun v v0 v1 => by
        unfold Iv0 uI at *
        by_cases hv : v = i
        · rw [if_pos hv, if_pos (by omega)]
        · rw [if_neg hv]; exact hR v v0 (by omega))
      refine ⟨R2, ?_, h2⟩
      rw [← h1]
      simp (disch := omega) only [f_X8_fewest_2, f_X8_fewest_24, ↓reduceIte, ↓nm_s, ↓lk_s, ↓pc_s, z_add, z_sub, z_mul, z_neg, z_le, z_lt, z_eq, z_ix, z_vin, z_rem, zc_0, zc_1, zc_2, zc_3, zc_4, zc_5, zc_6, zc_7, zc_8, zc_9, zc_10, zc_12, zc_20, zc_60, zc_80, zc_108, zc_120, zc_185, zc_192, zc_1344, zc_9999, zc_FAR, zc_NEV, ite_T, ite_F, bd_s, bd2_s, rz_z, toNat_cast, mR_at, mR_ne, mu_mR, il_t, il_f, ilt_t, ilt_f, ieq_t, ieq_f, nlt_t]
    · obtain ⟨R2, h1, h2⟩ := ih f (i + 1) (uI R i 1000000) (by omega) (by omega) (by omega) (fun v v0 v1 => by
        unfold Iv0 uI at *
        by_cases hv : v = i
        · rw [if_pos hv, if_neg (by omega)]
        · rw [if_neg hv]; exact hR v v0 (by omega))
      refine ⟨R2, ?_, h2⟩
      rw [← h1]
      simp (disch := omega) only [f_X8_fewest_2, f_X8_fewest_24, ↓reduceIte, ↓nm_s, ↓lk_s, ↓pc_s, z_add, z_sub, z_mul, z_neg, z_le, z_lt, z_eq, z_ix, z_vin, z_rem, zc_0, zc_1, zc_2, zc_3, zc_4, zc_5, zc_6, zc_7, zc_8, zc_9, zc_10, zc_12, zc_20, zc_60, zc_80, zc_108, zc_120, zc_185, zc_192, zc_1344, zc_9999, zc_FAR, zc_NEV, ite_T, ite_F, bd_s, bd2_s, rz_z, toNat_cast, mR_at, mR_ne, mu_mR, il_t, il_f, ilt_t, ilt_f, ieq_t, ieq_f, nlt_t]
theorem g_X8_fewest {p h : Int} {M : Mem} {A : Int → Int} (hO : Ok p h A) (hA : M 21 0 = rz A) {o w : Int} (o0 : 0 ≤ o) (oP : o < A 0) (w0 : 0 ≤ w) (w1 : w < 9) :
    ∃ D, f_X8_fewest M (iZ o) (iZ w) = some (iZ (eS A o w), mR M 27 0 D) := by
  have o2 := hO.2.1
  have hG := Gr_S hO
  obtain ⟨R, -, -, hMR⟩ := mR_self M 27 0
  obtain ⟨R2, h1, h2⟩ := g_X8_fewest_2 (M := M) (w := w) o0 (by omega) 9 FU 0 R (by omega) (by omega) (by unfold FU; omega) (fun v v0 v1 => by omega)
  have hI : IvS A o R2 := Iv_cg o0 (by omega) h2 (Iv0_iv o0 (by omega) (by omega))
  obtain ⟨D2, e1, e2, e3⟩ := g_X8_fewest_33 hO hA w0 w1 o0 oP 9 FU 0 R2 (by omega) (by omega) (by unfold FU; omega) hI (fun n v t hn hR => by
    cases n with
    | zero => obtain ⟨rfl, rfl⟩ := hR; exact hI.1
    | succ n => omega)
  obtain ⟨Ds, i1, i2, i3⟩ := Ea_ex (u := uA A) hG o0 oP (F := 1000000) (h := 0) (by omega)
  have hlow := i1.low hG o0 oP (by omega) i2
  have hw : D2 w = Ds w := by
    have ew := e2.2 w w0 w1
    have iw := i1.2 w w0 w1
    by_cases hD : Ds w < 1000000
    · obtain ⟨q1, q2, m, hm⟩ := iw.2 hD
      have := RcS_n _ _ _ hm
      have htop := i1.top (by omega) w0 w1 hD
      have h5 := e3 m w _ (by omega) hm
      obtain ⟨-, -, m2, hm2⟩ := ew.2 (by omega)
      have := (hlow _ _ _ hm2).2.2.2
      omega
    · by_cases hD2 : D2 w < 1000000
      · obtain ⟨-, -, m2, hm2⟩ := ew.2 hD2
        exact absurd (hlow _ _ _ hm2).2.2.1 hD
      · omega
  refine ⟨D2, ?_⟩
  rw [← EaS.is hO o0 oP w0 w1 (i3 w w0 w1), ← hw, ← e1, ← h1, ← hMR]
  rfl
