/-! The class's parser: forms. -/
def CT (M : Mem) (m : Int) (T : Int → Int) : Prop := 0 ≤ m ∧ m ≤ 60 ∧ M 13 0 1 = iZ m ∧ ∀ j, 0 ≤ j → j < m → 32 ≤ T j ∧ T j ≤ 126 ∧ M 14 0 j.toNat = iZ (T j)
theorem CT.of {M M2 : Mem} {m : Int} {T : Int → Int} (h : CT M m T) (h1 : M2 13 0 1 = M 13 0 1) (h2 : ∀ k, M2 14 0 k = M 14 0 k) : CT M2 m T := by
  obtain ⟨a, b, c, d⟩ := h
  exact ⟨a, b, by rw [h1]; exact c, fun j j0 j1 => by rw [h2]; exact d j j0 j1⟩
theorem hx_t {T : Int → Int} {m j : Int} (h0 : 0 ≤ j) (h1 : j < m) : hx T m j = T j := if_pos ⟨h0, h1⟩
theorem hx_f {T : Int → Int} {m j : Int} (h1 : m ≤ j) : hx T m j = -1 := if_neg (by omega)
theorem g_dig_5 {M : Mem} {m : Int} {T : Int → Int} (hT : CT M m T) {q : Int} (q1 : q ≤ 9) : ∀ (k f : Nat) (a i : Int), 0 ≤ i → i + k = q → 0 ≤ a → a ≤ m → k < f → f_X4_endOfDigits_5 M f (iZ q) (iZ a) (iZ i) = some (iZ (dE (hx T m) k a)) := by
  obtain ⟨m0, m1, h1, h2⟩ := hT
  intro k
  induction k with
  | zero =>
    intro f a i i0 hi a0 a1 hf
    obtain ⟨f, rfl⟩ : ∃ g, f = g + 1 := ⟨f - 1, by omega⟩
    clear h2
    simp (disch := omega) only [f_X4_endOfDigits_5, dE, ↓reduceIte, ↓nm_s, ↓lk_s, ↓pc_s, z_add, z_sub, z_mul, z_neg, z_le, z_lt, z_eq, z_ix, z_vin, z_rem, zc_0, zc_1, zc_2, zc_3, zc_4, zc_5, zc_6, zc_7, zc_8, zc_9, zc_10, zc_12, zc_20, zc_60, zc_80, zc_108, zc_120, zc_185, zc_192, zc_1344, zc_9999, zc_FAR, zc_NEV, ite_T, ite_F, bd_s, bd2_s, rz_z, toNat_cast, mR_at, mR_ne, mu_mR, il_t, il_f, ilt_t, ilt_f, ieq_t, ieq_f, nlt_t]
  | succ k ih =>
    intro f a i i0 hi a0 a1 hf
    obtain ⟨f, rfl⟩ : ∃ g, f = g + 1 := ⟨f - 1, by omega⟩
    unfold dE
    by_cases c : a < m
    · obtain ⟨t0, t1, t2⟩ := h2 a a0 c
      rw [hx_t a0 c]
      clear h2
      by_cases c2 : 48 ≤ T a ∧ T a ≤ 57
      · rw [if_pos c2, ← ih f (a + 1) (i + 1) (by omega) (by omega) (by omega) (by omega) (by omega)]
        clear ih
        simp (disch := omega) only [f_X4_endOfDigits_5, h1, t2, zc_48, zc_57, ↓reduceIte, ↓nm_s, ↓lk_s, ↓pc_s, z_add, z_sub, z_mul, z_neg, z_le, z_lt, z_eq, z_ix, z_vin, z_rem, zc_0, zc_1, zc_2, zc_3, zc_4, zc_5, zc_6, zc_7, zc_8, zc_9, zc_10, zc_12, zc_20, zc_60, zc_80, zc_108, zc_120, zc_185, zc_192, zc_1344, zc_9999, zc_FAR, zc_NEV, ite_T, ite_F, bd_s, bd2_s, rz_z, toNat_cast, mR_at, mR_ne, mu_mR, il_t, il_f, ilt_t, ilt_f, ieq_t, ieq_f, nlt_t]
      · rw [if_neg c2]
        clear ih
        by_cases c3 : T a < 48
        · simp (disch := omega) only [f_X4_endOfDigits_5, h1, t2, zc_48, zc_57, ↓reduceIte, ↓nm_s, ↓lk_s, ↓pc_s, z_add, z_sub, z_mul, z_neg, z_le, z_lt, z_eq, z_ix, z_vin, z_rem, zc_0, zc_1, zc_2, zc_3, zc_4, zc_5, zc_6, zc_7, zc_8, zc_9, zc_10, zc_12, zc_20, zc_60, zc_80, zc_108, zc_120, zc_185, zc_192, zc_1344, zc_9999, zc_FAR, zc_NEV, ite_T, ite_F, bd_s, bd2_s, rz_z, toNat_cast, mR_at, mR_ne, mu_mR, il_t, il_f, ilt_t, ilt_f, ieq_t, ieq_f, nlt_t]
        · simp (disch := omega) only [f_X4_endOfDigits_5, h1, t2, zc_48, zc_57, ↓reduceIte, ↓nm_s, ↓lk_s, ↓pc_s, z_add, z_sub, z_mul, z_neg, z_le, z_lt, z_eq, z_ix, z_vin, z_rem, zc_0, zc_1, zc_2, zc_3, zc_4, zc_5, zc_6, zc_7, zc_8, zc_9, zc_10, zc_12, zc_20, zc_60, zc_80, zc_108, zc_120, zc_185, zc_192, zc_1344, zc_9999, zc_FAR, zc_NEV, ite_T, ite_F, bd_s, bd2_s, rz_z, toNat_cast, mR_at, mR_ne, mu_mR, il_t, il_f, ilt_t, ilt_f, ieq_t, ieq_f, nlt_t]
    · rw [hx_f (by omega), if_neg (by omega)]
      clear h2 ih
      simp (disch := omega) only [f_X4_endOfDigits_5, h1, ↓reduceIte, ↓nm_s, ↓lk_s, ↓pc_s, z_add, z_sub, z_mul, z_neg, z_le, z_lt, z_eq, z_ix, z_vin, z_rem, zc_0, zc_1, zc_2, zc_3, zc_4, zc_5, zc_6, zc_7, zc_8, zc_9, zc_10, zc_12, zc_20, zc_60, zc_80, zc_108, zc_120, zc_185, zc_192, zc_1344, zc_9999, zc_FAR, zc_NEV, ite_T, ite_F, bd_s, bd2_s, rz_z, toNat_cast, mR_at, mR_ne, mu_mR, il_t, il_f, ilt_t, ilt_f, ieq_t, ieq_f, nlt_t]
theorem g_sto_6 {M : Mem} {m : Int} {T : Int → Int} (hT : CT M m T) {cnt e : Int} {arg : Nat} (h4 : M 13 0 4 = iZ cnt) (c0 : 0 ≤ cnt) (c1 : cnt ≤ 10) (ha : arg ≤ 3) (he : e ≤ m) : ∀ (k f : Nat) (i v : Int), 0 ≤ i → i + k = e → k < f → f_X4_storeArgument_6 f M (iZ arg) (iZ e) (iZ v) (iZ i) = some (if cnt < 10 then mu M 17 cnt.toNat arg (iZ (dV (hx T m) k i v)) else M) := by
  obtain ⟨m0, m1, h1, h2⟩ := hT
  intro k
  induction k with
  | zero =>
    intro f i v i0 hi hf
    obtain ⟨f, rfl⟩ : ∃ g, f = g + 1 := ⟨f - 1, by omega⟩
    clear h2
    unfold dV
    show (if iZ e ≤ iZ i then _ else _) = _
    rw [if_pos (show iZ e ≤ iZ i by rw [z_le (by omega) (by omega) (by omega) (by omega)]; omega), h4]
    by_cases c : cnt < 10
    · rw [if_pos c, if_neg (show ¬ ((10 : Int32) ≤ iZ cnt) by rw [zc_10, z_le (by omega) (by omega) (by omega) (by omega)]; omega), if_neg (show ¬ ((4 : Int32) ≤ iZ arg) by rw [zc_4, z_le (by omega) (by omega) (by omega) (by omega)]; omega), if_pos (of_eq_true (z_vin c0 (by omega) (by omega))), if_pos (of_eq_true (z_vin (by omega) (by omega) (by omega))), z_ix (by omega) (by omega), z_ix (by omega) (by omega), Int.toNat_natCast, nm_s]
    · rw [if_neg c, if_pos (show (10 : Int32) ≤ iZ cnt by rw [zc_10, z_le (by omega) (by omega) (by omega) (by omega)]; omega)]
  | succ k ih =>
    intro f i v i0 hi hf
    obtain ⟨f, rfl⟩ : ∃ g, f = g + 1 := ⟨f - 1, by omega⟩
    obtain ⟨t0, t1, t2⟩ := h2 i i0 (by omega)
    unfold dV
    rw [← ih f (i + 1) _ (by omega) (by omega) (by omega), hx_t i0 (by omega)]
    clear h2 ih
    show (if iZ e ≤ iZ i then _ else _) = _
    rw [if_neg (show ¬ (iZ e ≤ iZ i) by rw [z_le (by omega) (by omega) (by omega) (by omega)]; omega), if_pos (of_eq_true (z_vin i0 (by omega) (by omega))), z_ix (by omega) (by omega), t2, zc_10, z_mul, zc_48, z_sub, z_add, zc_1, z_add]
theorem ch_at : ∀ i, i < 11 → ∀ j, j < (cst i).length → f_J0_charAt_5068e (fun _ _ _ => 0) i (nI j) = some (iZ ((cst i).getD j 0)) := by decide +kernel
theorem g_char (M : Mem) {i j : Nat} (hi : i < 11) (hj : j < (cst i).length) : f_J0_charAt_5068e M i (iZ j) = some (iZ ((cst i).getD j 0)) := by
  rw [← nI_iZ, ← ch_at i hi j hj]
  rfl
/-- what the parser changes -/
def Fp (cnt : Int) (M M2 : Mem) : Prop := ∀ d i k, ¬ (d = 13 ∧ k = 5) → ¬ (d = 17 ∧ i = cnt.toNat) → M2 d i k = M d i k
theorem Fp.rfl' (cnt : Int) (M : Mem) : Fp cnt M M := fun _ _ _ _ _ => rfl
theorem Fp.tr {cnt : Int} {M M2 M3 : Mem} (h : Fp cnt M M2) (h2 : Fp cnt M2 M3) : Fp cnt M M3 := fun d i k a b => (h2 d i k a b).trans (h d i k a b)
theorem z_max {a b : Int} (ha : i32 a) (hb : i32 b) : (if iZ a < iZ b then iZ b else iZ a) = iZ (max a b) := by
  unfold i32 at ha hb
  by_cases c : a < b
  · rw [if_pos (by rw [z_lt (by omega) (by omega) (by omega) (by omega)]; exact c), show max a b = b by omega]
  · rw [if_neg (by rw [z_lt (by omega) (by omega) (by omega) (by omega)]; exact c), show max a b = a by omega]
theorem g_101s {k8 : Mem → Nat → Int32 → Int32 → Int32 → Option (Int32 × Mem)} {M : Mem} {i : Nat} {a fur : Int} (x y : Int32) (h5 : M 13 0 5 = iZ fur) (a0 : i32 a) (f0 : i32 fur) : f_X4_endOfForm_101 k8 M i (iZ a) x y (iZ a) = some (iZ (-1), mu M 13 0 5 (iZ (max fur a))) := by
  unfold f_X4_endOfForm_101
  rw [if_pos rfl, h5, z_max f0 a0, nm_s]; rfl
theorem g_101n {k8 : Mem → Nat → Int32 → Int32 → Int32 → Option (Int32 × Mem)} {M : Mem} {i : Nat} {a e : Int} (x : Int32) (y : Int) (a0 : i32 a) (f0 : i32 e) (h : e ≠ a) : f_X4_endOfForm_101 k8 M i (iZ a) x (iZ y) (iZ e) = k8 M i (iZ e) x (iZ (y + 1)) := by
  unfold f_X4_endOfForm_101
  rw [if_neg (ne_z f0 a0 h), zc_1, z_add]
theorem g_form_8 {T : Int → Int} {m cnt : Int} {i : Nat} (hi : i < 11) (c0 : 0 ≤ cnt) (c1 : cnt ≤ 10) : ∀ (L : List Int) (f : Nat) (M : Mem) (a fur : Int) (arg idx : Nat), (cst i).drop idx = L → idx + L.length = (cst i).length → L.length < f → CT M m T → M 13 0 4 = iZ cnt → M 13 0 5 = iZ fur → 0 ≤ fur → fur ≤ 100 → 0 ≤ a → a ≤ m → arg + nD L ≤ 4 →
    ∃ M2, f_X4_endOfForm_8 f M i (iZ a) (iZ arg) (iZ idx) = some (iZ (if (wk (hx T m) L a).2.1 = true then (wk (hx T m) L a).1 else -1), M2) ∧ Fp cnt M M2 ∧ M2 13 0 5 = iZ (if (wk (hx T m) L a).2.1 = true then fur else max fur (wk (hx T m) L a).1) ∧
      (cnt < 10 → (wk (hx T m) L a).2.1 = true → ∀ j, j < (wk (hx T m) L a).2.2.length → M2 17 cnt.toNat (arg + j) = iZ ((wk (hx T m) L a).2.2.getD j 0)) ∧ ∀ j, j < arg → M2 17 cnt.toNat j = M 17 cnt.toNat j := by
  have hln : ∀ M : Mem, f_J0_length_8abf5 M i = some (iZ (cst i).length) := fun M => len0 M (by omega)
  have hl11 := (cst_ok i (by omega)).2.1
  intro L
  induction L with
  | nil =>
    intro f M a fur arg idx hd hl hf hT h4 h5 f0 f1 a0 a1 hn
    obtain ⟨f, rfl⟩ : ∃ g, f = g + 1 := ⟨f - 1, by omega⟩
    refine ⟨M, ?_, Fp.rfl' _ _, h5, fun _ _ j hj => absurd hj (Nat.not_lt_zero j), fun _ _ => rfl⟩
    have hl2 : idx = (cst i).length := hl
    show bd (f_J0_length_8abf5 M i) _ = _
    rw [bdq (hln M), if_pos (show iZ (cst i).length ≤ iZ idx by rw [hl2, z_le (by omega) (by omega) (by omega) (by omega)]; omega)]
    rfl
  | cons c L ih =>
    intro f M a fur arg idx hd hl hf hT h4 h5 f0 f1 a0 a1 hn
    obtain ⟨f, rfl⟩ : ∃ g, f = g + 1 := ⟨f - 1, by omega⟩
    rw [List.length_cons] at hl hf
    have hm1 := hT.2.1
    have hc : (cst i).getD idx 0 = c := by
      have := congrArg (fun l => l.getD 0 0) hd
      simpa [List.getD_eq_getElem?_getD] using this
    have hd2 : (cst i).drop (idx + 1) = L := by rw [← List.tail_drop, hd]; rfl
    have hch := g_char M hi (show idx < (cst i).length by omega)
    rw [hc] at hch
    have hcb : 0 ≤ c ∧ c ≤ 200 := by
      have := (cst_ok i (by omega)).2.2 idx (by omega)
      rw [hc] at this
      omega
    have hstart : f_X4_endOfForm_8 (f + 1) M i (iZ a) (iZ arg) (iZ idx) = (if iZ c = (57 : Int32) then f_X4_endOfForm_39 (f_X4_endOfForm_8 f) M i (iZ a) (iZ arg) (iZ idx) (iZ c) else (if iZ c = (35 : Int32) then f_X4_endOfForm_39 (f_X4_endOfForm_8 f) M i (iZ a) (iZ arg) (iZ idx) (iZ c) else (if (M 13 0 1) ≤ iZ a then f_X4_endOfForm_98 (f_X4_endOfForm_8 f) M i (iZ a) (iZ arg) (iZ idx) else if vin (iZ a) 60 then ((if (M 14 0 (ix (iZ a))) = iZ c then f_X4_endOfForm_99 (f_X4_endOfForm_8 f) M i (iZ a) (iZ arg) (iZ idx) (iZ a + (1 : Int32)) else f_X4_endOfForm_98 (f_X4_endOfForm_8 f) M i (iZ a) (iZ arg) (iZ idx))) else none))) := by
      show bd (f_J0_length_8abf5 M i) _ = _
      rw [bdq (hln M), if_neg (show ¬ (iZ (cst i).length ≤ iZ idx) by rw [z_le (by omega) (by omega) (by omega) (by omega)]; omega), bdq hch]
    rw [hstart]
    by_cases hcd : c = 57 ∨ c = 35
    · have hnD : nD (c :: L) = nD L + 1 := by rw [nD, if_pos hcd]
      have he := dE_in (T := T) (m := m) (mst c) a a0 a1
      have h39 : (if iZ c = (57 : Int32) then f_X4_endOfForm_39 (f_X4_endOfForm_8 f) M i (iZ a) (iZ arg) (iZ idx) (iZ c) else (if iZ c = (35 : Int32) then f_X4_endOfForm_39 (f_X4_endOfForm_8 f) M i (iZ a) (iZ arg) (iZ idx) (iZ c) else (if (M 13 0 1) ≤ iZ a then f_X4_endOfForm_98 (f_X4_endOfForm_8 f) M i (iZ a) (iZ arg) (iZ idx) else if vin (iZ a) 60 then ((if (M 14 0 (ix (iZ a))) = iZ c then f_X4_endOfForm_99 (f_X4_endOfForm_8 f) M i (iZ a) (iZ arg) (iZ idx) (iZ a + (1 : Int32)) else f_X4_endOfForm_98 (f_X4_endOfForm_8 f) M i (iZ a) (iZ arg) (iZ idx))) else none))) = f_X4_endOfForm_101 (f_X4_endOfForm_8 f) (if cnt < 10 then mu M 17 cnt.toNat arg (iZ (dV (hx T m) (dE (hx T m) (mst c) a - a).toNat a 0)) else M) i (iZ a) (iZ ((arg + 1 : Nat) : Int)) (iZ idx) (iZ (dE (hx T m) (mst c) a)) := by
        have hsto := g_sto_6 hT h4 c0 c1 (arg := arg) (by omega) he.2.2 (dE (hx T m) (mst c) a - a).toNat FU a 0 a0 (by omega) (by unfold FU; have := he.2.1; unfold mst at this; split at this <;> omega)
        have hsto2 : f_X4_storeArgument M (iZ arg) (iZ a) (iZ (dE (hx T m) (mst c) a)) = _ := hsto
        have harg : iZ arg + (1 : Int32) = iZ ((arg + 1 : Nat) : Int) := by rw [zc_1, z_add]; rfl
        obtain rfl | rfl := hcd
        · have hdig : f_X4_endOfDigits M (iZ a) (1 : Int32) = some (iZ (dE (hx T m) (mst 57) a)) := g_dig_5 hT (q := 1) (by omega) 1 FU a 0 (by omega) (by omega) a0 a1 (by unfold FU; omega)
          rw [if_pos (by decide)]
          unfold f_X4_endOfForm_39 f_X4_endOfForm_53
          rw [if_pos (by decide), bdq hdig, bdq hsto2, harg]
        · have hdig : f_X4_endOfDigits M (iZ a) (3 : Int32) = some (iZ (dE (hx T m) (mst 35) a)) := g_dig_5 hT (q := 3) (by omega) 3 FU a 0 (by omega) (by omega) a0 a1 (by unfold FU; omega)
          rw [if_neg (by decide), if_pos (by decide)]
          unfold f_X4_endOfForm_39 f_X4_endOfForm_53
          rw [if_neg (by decide), bdq hdig, bdq hsto2, harg]
      rw [h39]
      generalize hV : dV (hx T m) (dE (hx T m) (mst c) a - a).toNat a 0 = V
      generalize hM3 : (if cnt < 10 then mu M 17 cnt.toNat arg (iZ V) else M) = M3
      have hF3 : Fp cnt M M3 := fun d l k h1 h2 => by
        rw [← hM3]
        split
        · rw [mu_miss _ _ (by omega)]
        · rfl
      have hT3 : CT M3 m T := hT.of (hF3 13 0 1 (by omega) (by omega)) (fun k => hF3 14 0 k (by omega) (by omega))
      have h43 : M3 13 0 4 = iZ cnt := by rw [hF3 13 0 4 (by omega) (by omega)]; exact h4
      have h53 : M3 13 0 5 = iZ fur := by
        rw [← hM3]
        split
        · rw [mu_miss _ _ (by omega)]; exact h5
        · exact h5
      have hsl : ∀ j, j ≠ arg → M3 17 cnt.toNat j = M 17 cnt.toNat j := fun j hj => by
        rw [← hM3]
        split
        · rw [mu_miss _ _ (by omega)]
        · rfl
      by_cases e : dE (hx T m) (mst c) a = a
      · rw [wk_dn hcd e, e]
        rw [g_101s _ _ h53 (by omega) (by omega)]
        refine ⟨_, rfl, hF3.tr (fun d l k h1 h2 => by rw [mu_miss _ _ (by omega)]), mu_hit _ _ _ _ _, fun _ h => (by cases h), fun j hj => by rw [mu_miss _ _ (by omega)]; exact hsl j (by omega)⟩
      · rw [wk_d hcd e, hV]
        rw [g_101n _ _ (by omega) (by omega) e]
        obtain ⟨M2, p1, p2, p3, p4, p5⟩ := ih f M3 (dE (hx T m) (mst c) a) fur (arg + 1) (idx + 1) hd2 (by omega) (by omega) hT3 h43 h53 f0 f1 (by omega) he.2.2 (by omega)
        refine ⟨M2, p1, hF3.tr p2, p3, fun hc hok j hj => ?_, fun j hj => by rw [p5 j (by omega)]; exact hsl j (by omega)⟩
        cases j with
        | zero =>
          rw [Nat.add_zero, p5 arg (by omega), ← hM3, if_pos hc, mu_hit]; rfl
        | succ j =>
          have := p4 hc hok j (by have : j + 1 < (V :: (wk (hx T m) L (dE (hx T m) (mst c) a)).2.2).length := hj; rw [List.length_cons] at this; omega)
          rw [show arg + (j + 1) = arg + 1 + j by omega, this]; rfl
    · have hnD : nD (c :: L) = nD L := by rw [nD, if_neg hcd]
      rw [if_neg (show ¬ (iZ c = (57 : Int32)) by rw [zc_57]; exact ne_z (by omega) (by omega) (by omega)), if_neg (show ¬ (iZ c = (35 : Int32)) by rw [show (35 : Int32) = iZ 35 from rfl]; exact ne_z (by omega) (by omega) (by omega)), hT.2.2.1]
      by_cases ha : a < m
      · obtain ⟨t0, t1, t2⟩ := hT.2.2.2 a a0 ha
        rw [if_neg (show ¬ (iZ m ≤ iZ a) by rw [z_le (by omega) (by omega) (by omega) (by omega)]; omega), if_pos (of_eq_true (z_vin a0 (by omega) (by omega))), z_ix (by omega) (by omega), t2]
        by_cases e : T a = c
        · rw [wk_l hcd (by rw [hx_t a0 ha]; exact e), if_pos (show iZ (T a) = iZ c by rw [e])]
          unfold f_X4_endOfForm_99
          rw [zc_1, z_add, g_101n _ _ (by omega) (by omega) (by omega)]
          exact ih f M (a + 1) fur arg (idx + 1) hd2 (by omega) (by omega) hT h4 h5 f0 f1 (by omega) (by omega) (by omega)
        · rw [wk_ln hcd (by rw [hx_t a0 ha]; exact e), if_neg (ne_z (by omega) (by omega) e)]
          unfold f_X4_endOfForm_98 f_X4_endOfForm_99
          rw [g_101s _ _ h5 (by omega) (by omega)]
          exact ⟨_, rfl, fun d l k h1 h2 => by rw [mu_miss _ _ (by omega)], mu_hit _ _ _ _ _, fun _ h => (by cases h), fun j hj => by rw [mu_miss _ _ (by omega)]⟩
      · rw [wk_ln hcd (by rw [hx_f (by omega)]; omega), if_pos (show iZ m ≤ iZ a by rw [z_le (by omega) (by omega) (by omega) (by omega)]; omega)]
        unfold f_X4_endOfForm_98 f_X4_endOfForm_99
        rw [g_101s _ _ h5 (by omega) (by omega)]
        exact ⟨_, rfl, fun d l k h1 h2 => by rw [mu_miss _ _ (by omega)], mu_hit _ _ _ _ _, fun _ h => (by cases h), fun j hj => by rw [mu_miss _ _ (by omega)]⟩
