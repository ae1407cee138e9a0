/-! On a copy: deliveredIf. -/
noncomputable def dI : Nat → (Int → Int) → Int → (Int → Int) × Int
  | 0, A, c => (A, c)
  | n + 1, A, c => dI n (sHr (sDi A).1).1 (c + (sHr (sDi A).1).2)
theorem g_dIf_22 {p : Int} {q : Int} (hi : i32 q) : ∀ (n f : Nat) (M : Mem) (h : Int) (A : Int → Int) (c k : Int), Ok p h A → Rm p (h + n) → Rw M 1 → Cl M 1 A → 0 ≤ k → k + n = q → n < f →
    ∃ M2, f_X7_deliveredIf_22 f M (iZ q) (iZ c) (iZ k) = some (.inl (iZ (dI n A c).2), M2) ∧ Rw M2 1 ∧ FS 1 M M2 := by
  unfold i32 at hi
  intro n
  induction n with
  | zero =>
    intro f M h A c k hO hm hR hC k0 hk hf
    obtain ⟨f, rfl⟩ : ∃ g, f = g + 1 := ⟨f - 1, by omega⟩
    refine ⟨M, ?_, hR, FS.refl 1 M⟩
    clear hO hR hC
    simp (disch := omega) only [f_X7_deliveredIf_22, dI, ↓reduceIte, ↓nm_s, ↓lk_s, ↓pc_s, z_add, z_sub, z_mul, z_neg, z_le, z_lt, z_eq, z_ix, z_vin, z_rem, zc_0, zc_1, zc_2, zc_3, zc_4, zc_5, zc_6, zc_7, zc_8, zc_9, zc_10, zc_12, zc_20, zc_60, zc_80, zc_108, zc_120, zc_185, zc_192, zc_1344, zc_9999, zc_FAR, zc_NEV, ite_T, ite_F, bd_s, bd2_s, rz_z, toNat_cast, mR_at, mR_ne, mu_mR, il_t, il_f, ilt_t, ilt_f, ieq_t, ieq_f, nlt_t]
  | succ n ih =>
    intro f M h A c k hO hm hR hC k0 hk hf
    obtain ⟨f, rfl⟩ : ∃ g, f = g + 1 := ⟨f - 1, by omega⟩
    obtain ⟨M1, q1, q2, q3, q4⟩ := g_sendAll hO (by unfold Rm at *; omega) (by omega) hR hC
    obtain ⟨M2, s1, s2, s3, s4⟩ := g_letHourPass (Ok_sDi hO) (by unfold Rm at *; omega) (by omega) q3 q2
    obtain ⟨M3, t1, t2, t3⟩ := ih f M2 (h + 1) (sHr (sDi A).1).1 (c + (sHr (sDi A).1).2) (k + 1) (Ok_sHr (Ok_sDi hO)) (by unfold Rm at *; omega) s3 s2 (by omega) (by omega) (by omega)
    refine ⟨M3, ?_, t2, (q4.tr s4).tr t3⟩
    unfold dI
    rw [← t1]
    clear hO hR hC ih t1 t2 t3 s2 s3 s4 q2 q3 q4
    simp (disch := omega) only [f_X7_deliveredIf_22, q1, s1, ↓reduceIte, ↓nm_s, ↓lk_s, ↓pc_s, z_add, z_sub, z_mul, z_neg, z_le, z_lt, z_eq, z_ix, z_vin, z_rem, zc_0, zc_1, zc_2, zc_3, zc_4, zc_5, zc_6, zc_7, zc_8, zc_9, zc_10, zc_12, zc_20, zc_60, zc_80, zc_108, zc_120, zc_185, zc_192, zc_1344, zc_9999, zc_FAR, zc_NEV, ite_T, ite_F, bd_s, bd2_s, rz_z, toNat_cast, mR_at, mR_ne, mu_mR, il_t, il_f, ilt_t, ilt_f, ieq_t, ieq_f, nlt_t]
theorem g_dIf_79 {T : Int → Int} (r : Int32) : ∀ (n f : Nat) (M : Mem) (A : Int → Int) (k : Int), M 23 0 = rz T → 0 ≤ k → k + n = 192 → n < f → (∀ j, 0 ≤ j → j < k → A j = T j) →
    ∃ A2, f_X8_deliveredIf_79 f (mR M 21 0 A) r (iZ k) = some (r, mR M 21 0 A2) ∧ ∀ j, 0 ≤ j → j < 192 → A2 j = T j := by
  intro n
  induction n with
  | zero =>
    intro f M A k hS k0 hk hf hA
    obtain ⟨f, rfl⟩ : ∃ g, f = g + 1 := ⟨f - 1, by omega⟩
    refine ⟨A, ?_, fun j j0 j1 => hA j j0 (by omega)⟩
    simp (disch := omega) only [f_X8_deliveredIf_79, ↓reduceIte, ↓nm_s, ↓lk_s, ↓pc_s, z_add, z_sub, z_mul, z_neg, z_le, z_lt, z_eq, z_ix, z_vin, z_rem, zc_0, zc_1, zc_2, zc_3, zc_4, zc_5, zc_6, zc_7, zc_8, zc_9, zc_10, zc_12, zc_20, zc_60, zc_80, zc_108, zc_120, zc_185, zc_192, zc_1344, zc_9999, zc_FAR, zc_NEV, ite_T, ite_F, bd_s, bd2_s, rz_z, toNat_cast, mR_at, mR_ne, mu_mR, il_t, il_f, ilt_t, ilt_f, ieq_t, ieq_f, nlt_t]
  | succ n ih =>
    intro f M A k hS k0 hk hf hA
    obtain ⟨f, rfl⟩ : ∃ g, f = g + 1 := ⟨f - 1, by omega⟩
    obtain ⟨A2, h1, h2⟩ := ih f M (uI A k (T k)) (k + 1) hS (by omega) (by omega) (by omega) (fun j j0 j1 => by
      by_cases hj : j = k
      · rw [hj, uI_eq]
      · rw [uI_ne _ _ hj]; exact hA j j0 (by omega))
    refine ⟨A2, ?_, h2⟩
    rw [← h1]
    simp (disch := omega) only [f_X8_deliveredIf_79, hS, ↓reduceIte, ↓nm_s, ↓lk_s, ↓pc_s, z_add, z_sub, z_mul, z_neg, z_le, z_lt, z_eq, z_ix, z_vin, z_rem, zc_0, zc_1, zc_2, zc_3, zc_4, zc_5, zc_6, zc_7, zc_8, zc_9, zc_10, zc_12, zc_20, zc_60, zc_80, zc_108, zc_120, zc_185, zc_192, zc_1344, zc_9999, zc_FAR, zc_NEV, ite_T, ite_F, bd_s, bd2_s, rz_z, toNat_cast, mR_at, mR_ne, mu_mR, il_t, il_f, ilt_t, ilt_f, ieq_t, ieq_f, nlt_t]
theorem g_dIf_25 {A : Int → Int} (q : Int32) : ∀ (n f : Nat) (M : Mem) (C : Int → Int) (k : Int), M 21 0 = rz A → 0 ≤ k → k + n = 192 → n < f → (∀ j, 0 ≤ j → j < k → C j = A j) →
    ∃ C2, f_X8_deliveredIf_25 f (mR M 23 0 C) q (iZ k) = f_X8_deliveredIf_54 FU (mR M 23 0 C2) q (iZ 0) (iZ 0) ∧ ∀ j, 0 ≤ j → j < 192 → C2 j = A j := by
  intro n
  induction n with
  | zero =>
    intro f M C k hS k0 hk hf hA
    obtain ⟨f, rfl⟩ : ∃ g, f = g + 1 := ⟨f - 1, by omega⟩
    refine ⟨C, ?_, fun j j0 j1 => hA j j0 (by omega)⟩
    simp (disch := omega) only [f_X8_deliveredIf_25, ↓reduceIte, ↓nm_s, ↓lk_s, ↓pc_s, z_add, z_sub, z_mul, z_neg, z_le, z_lt, z_eq, z_ix, z_vin, z_rem, zc_0, zc_1, zc_2, zc_3, zc_4, zc_5, zc_6, zc_7, zc_8, zc_9, zc_10, zc_12, zc_20, zc_60, zc_80, zc_108, zc_120, zc_185, zc_192, zc_1344, zc_9999, zc_FAR, zc_NEV, ite_T, ite_F, bd_s, bd2_s, rz_z, toNat_cast, mR_at, mR_ne, mu_mR, il_t, il_f, ilt_t, ilt_f, ieq_t, ieq_f, nlt_t]
  | succ n ih =>
    intro f M C k hS k0 hk hf hA
    obtain ⟨f, rfl⟩ : ∃ g, f = g + 1 := ⟨f - 1, by omega⟩
    obtain ⟨C2, h1, h2⟩ := ih f M (uI C k (A k)) (k + 1) hS (by omega) (by omega) (by omega) (fun j j0 j1 => by
      by_cases hj : j = k
      · rw [hj, uI_eq]
      · rw [uI_ne _ _ hj]; exact hA j j0 (by omega))
    refine ⟨C2, ?_, h2⟩
    rw [← h1]
    simp (disch := omega) only [f_X8_deliveredIf_25, hS, ↓reduceIte, ↓nm_s, ↓lk_s, ↓pc_s, z_add, z_sub, z_mul, z_neg, z_le, z_lt, z_eq, z_ix, z_vin, z_rem, zc_0, zc_1, zc_2, zc_3, zc_4, zc_5, zc_6, zc_7, zc_8, zc_9, zc_10, zc_12, zc_20, zc_60, zc_80, zc_108, zc_120, zc_185, zc_192, zc_1344, zc_9999, zc_FAR, zc_NEV, ite_T, ite_F, bd_s, bd2_s, rz_z, toNat_cast, mR_at, mR_ne, mu_mR, il_t, il_f, ilt_t, ilt_f, ieq_t, ieq_f, nlt_t]
theorem g_dIf_54 {p : Int} {q : Int} (hi : i32 q) : ∀ (n f : Nat) (M : Mem) (h : Int) (A : Int → Int) (c k : Int), M 21 0 = rz A → Ok p h A → Rm p (h + n) → 0 ≤ k → k + n = q → n < f →
    ∃ M3 A3, f_X8_deliveredIf_54 f M (iZ q) (iZ c) (iZ k) = f_X8_deliveredIf_79 FU M3 (iZ (dI n A c).2) (iZ 0) ∧ M3 21 0 = rz A3 ∧ ∀ d i l, d ≠ 21 → d ≠ 27 → M3 d i l = M d i l := by
  unfold i32 at hi
  intro n
  induction n with
  | zero =>
    intro f M h A c k hA hO hm k0 hk hf
    obtain ⟨f, rfl⟩ : ∃ g, f = g + 1 := ⟨f - 1, by omega⟩
    refine ⟨M, A, ?_, hA, fun _ _ _ _ _ => rfl⟩
    clear hO hA
    simp (disch := omega) only [f_X8_deliveredIf_54, dI, ↓reduceIte, ↓nm_s, ↓lk_s, ↓pc_s, z_add, z_sub, z_mul, z_neg, z_le, z_lt, z_eq, z_ix, z_vin, z_rem, zc_0, zc_1, zc_2, zc_3, zc_4, zc_5, zc_6, zc_7, zc_8, zc_9, zc_10, zc_12, zc_20, zc_60, zc_80, zc_108, zc_120, zc_185, zc_192, zc_1344, zc_9999, zc_FAR, zc_NEV, ite_T, ite_F, bd_s, bd2_s, rz_z, toNat_cast, mR_at, mR_ne, mu_mR, il_t, il_f, ilt_t, ilt_f, ieq_t, ieq_f, nlt_t]
  | succ n ih =>
    intro f M h A c k hA hO hm k0 hk hf
    obtain ⟨f, rfl⟩ : ∃ g, f = g + 1 := ⟨f - 1, by omega⟩
    obtain ⟨D, q1⟩ := g_dispatchIt hO (by unfold Rm at *; omega) M
    rw [mR_id hA] at q1
    have s1 := g_passesHour (Ok_sDi hO) (by unfold Rm at *; omega) (mR M 27 0 D)
    obtain ⟨M3, A3, t1, t2, t3⟩ := ih f (mR (mR M 27 0 D) 21 0 (sHr (sDi A).1).1) (h + 1) (sHr (sDi A).1).1 (c + (sHr (sDi A).1).2) (k + 1) (mR_at _ _ _ _) (Ok_sHr (Ok_sDi hO)) (by unfold Rm at *; omega) (by omega) (by omega) (by omega)
    refine ⟨M3, A3, ?_, t2, fun d i l h1 h2 => by rw [t3 d i l h1 h2, mR_ne _ _ (by omega), mR_ne _ _ (by omega)]⟩
    unfold dI
    rw [← t1]
    clear hO hA ih t1 t2 t3
    simp (disch := omega) only [f_X8_deliveredIf_54, q1, s1, ↓reduceIte, ↓nm_s, ↓lk_s, ↓pc_s, z_add, z_sub, z_mul, z_neg, z_le, z_lt, z_eq, z_ix, z_vin, z_rem, zc_0, zc_1, zc_2, zc_3, zc_4, zc_5, zc_6, zc_7, zc_8, zc_9, zc_10, zc_12, zc_20, zc_60, zc_80, zc_108, zc_120, zc_185, zc_192, zc_1344, zc_9999, zc_FAR, zc_NEV, ite_T, ite_F, bd_s, bd2_s, rz_z, toNat_cast, mR_at, mR_ne, mu_mR, il_t, il_f, ilt_t, ilt_f, ieq_t, ieq_f, nlt_t]
theorem Lc.trial {p h : Int} {M M1 : Mem} {A A2 S : Int → Int} {Bf : Int → Int → Int} {o c v : Int} (hK : Lk p h A S Bf o c v) (hL : Lc M A S Bf o c v) (hF : FS 1 M M1) (hR : Rw M1 1) (hE : Eq192 A A2) : Lc M1 A2 S Bf o c v := by
  obtain ⟨hO, o0, o1, c0, c1, hH, hv, hS⟩ := hK
  obtain ⟨l1, l2, l3, l4, l5, l6, l7⟩ := hL
  refine ⟨Cl_cg hO hE (Cl_FS hO (by omega) hF.two (l2 0 (by omega)) l1), fun s hs => ?_, ?_, ?_, fun j j0 j1 => ?_, ?_, fun hv1 => ?_⟩
  · by_cases e : 1 = s
    · rw [← e]; exact hR
    · exact Rw_FS e hF.two (l2 s hs)
  · rw [hF 11 0 (by unfold own; omega)]; exact l3
  · rw [hF 11 0 (by unfold own; omega)]; exact l4
  · exact Cl_FS (hH j j0 (by omega)) (by unfold st8; omega) hF.two (l2 _ (by unfold st8; omega)) (l5 j j0 (by omega))
  · rw [hF 0 0 (by unfold own; omega)]; exact l6
  · exact Cl_FS (hS hv1) (by omega) hF.two (l2 2 (by omega)) (l7 hv1)
theorem q_deliveredIf {n : Int} {M : Mem} (n0 : 0 ≤ n) (n1 : n ≤ 512) (hR : Rl n M) (x : Int32) : Gd n (f_L_deliveredIf M x) (fun M1 => f_X8_deliveredIf M1 x) := by
  obtain ⟨a, rfl, ha⟩ := z_mk x
  have hR0 := hR
  obtain ⟨A, S, Bf, o, c, v, hK, hL, hr, hx⟩ := hR
  have e1 : f_X7_requireBetween M (iZ a) (1 : Int32) (60 : Int32) = _ := g_reqBe M ha (by omega : i32 1) (by omega : i32 60)
  by_cases e : 1 ≤ a ∧ a ≤ 60
  · rw [if_pos e] at e1
    have hO := hK.1
    obtain ⟨M1, q1, q2, q3, q4⟩ := g_copySrv hO (s := 1) (t := 0) (by omega) (by omega) (by omega) (hL.2.1 1 (by omega)) (hL.2.1 0 (by omega)) hL.1
    obtain ⟨M2, s1, s2, s3⟩ := g_dIf_22 (q := a) (by omega) a.toNat FU M1 (1200 * n) A 0 0 hO (by unfold Rm; omega) q3 q2 (by omega) (by omega) (by unfold FU; omega)
    obtain ⟨r1, r2, r3, r4, r5⟩ := hr
    have hF : FS 1 M M2 := q4.tr s3
    have h1 : f_L_deliveredIf M (iZ a) = some (iZ 0, mu M2 33 0 0 (iZ (dI a.toNat A 0).2)) := by
      unfold f_L_deliveredIf f_X7_deliveredIf
      rw [e1, bx_l, bdq q1, zc_0, s1, bxh_l, nm_s]
    have w1 : ∀ d i k, ¬ own 1 d i → d ≠ 33 → ¬ (d = 20 ∧ k = 9) → mT (mu M2 33 0 0 (iZ (dI a.toNat A 0).2)) 0 d i k = M d i k := fun d i k a1 a2 a3 => by
      unfold mT; rw [mu_miss _ _ (by omega), mu_miss _ _ (by omega), hF d i a1]
    have w21 : mT (mu M2 33 0 0 (iZ (dI a.toNat A 0).2)) 0 21 0 = rz A := by funext k; rw [w1 21 0 k (by unfold own; omega) (by omega) (by omega), r1]
    obtain ⟨C0, -, -, hC23⟩ := mR_self (mT (mu M2 33 0 0 (iZ (dI a.toNat A 0).2)) 0) 23 0
    obtain ⟨C2, p1, p2⟩ := g_dIf_25 (A := A) (iZ a) 192 FU _ C0 0 w21 (by omega) (by omega) (by unfold FU; omega) (fun j j0 j1 => by omega)
    rw [← hC23] at p1
    obtain ⟨M3, A3, t1, t2, t3⟩ := g_dIf_54 (p := 10 * n) (q := a) (by omega) a.toNat FU (mR (mT (mu M2 33 0 0 (iZ (dI a.toNat A 0).2)) 0) 23 0 C2) (1200 * n) A 0 0 (by rw [mR_ne _ _ (by omega)]; exact w21) hO (by unfold Rm; omega) (by omega) (by omega) (by unfold FU; omega)
    obtain ⟨A2, u1, u2⟩ := g_dIf_79 (T := C2) (iZ (dI a.toNat A 0).2) 192 FU M3 A3 0 (by funext k; rw [t3 23 0 k (by omega) (by omega), mR_at]) (by omega) (by omega) (by unfold FU; omega) (fun j j0 j1 => by omega)
    rw [mR_id t2] at u1
    have hE : Eq192 A A2 := fun j j0 j1 => by rw [u2 j j0 j1, p2 j j0 j1]
    have w2 : ∀ d i k, d ≠ 21 → d ≠ 23 → d ≠ 27 → d ≠ 33 → ¬ (d = 20 ∧ k = 9) → mR M3 21 0 A2 d i k = M2 d i k := fun d i k a1 a2 a3 a4 a5 => by
      rw [mR_ne _ _ (by omega), t3 d i k a1 a3, mR_ne _ _ (by omega)]; unfold mT; rw [mu_miss _ _ (by omega), mu_miss _ _ (by omega)]
    refine ⟨_, _, iZ (dI a.toNat A 0).2, mR M3 21 0 A2, h1, ?_, ?_, fun _ => ?_, A2, S, Bf, o, c, v, ?_, (Lc.trial hK hL hF s2 hE).of (fun d i k hd => w2 d i k (by omega) (by omega) (by omega) (by omega) (by omega)), ⟨mR_at _ _ _ _, ?_, ?_, ?_, ?_⟩, hx.of (fun d i k hd => ?_)⟩
    · show f_X8_deliveredIf _ _ = _
      unfold f_X8_deliveredIf
      rw [nm_s, mu0_mT, c64_1, c64_60, bdq (g_X8_in _ ha (by omega : i32 1) (by omega : i32 60)), bI_t e, if_neg n10, zc_0, p1, t1, u1]
    · rw [mR_ne _ _ (by omega), t3 20 0 9 (by omega) (by omega), mR_ne _ _ (by omega)]; exact mT_9 _ _
    · rw [mR_ne _ _ (by omega), t3 33 0 0 (by omega) (by omega), mR_ne _ _ (by omega)]; unfold mT; rw [mu_miss _ _ (by omega)]; exact mu_hit _ _ _ _ _
    · obtain ⟨k1, k2⟩ := hK.mono (p2 := 10 * (n + 1)) (h2 := 1200 * (n + 1)) (by omega) (by omega)
      exact ⟨Ok_cg k1 hE, k2⟩
    · funext k; rw [w2 24 0 k (by omega) (by omega) (by omega) (by omega) (by omega), hF 24 0 (by unfold own; omega), r2]
    · obtain ⟨B, r3, r3'⟩ := r3
      exact ⟨B, by funext k; rw [w2 25 0 k (by omega) (by omega) (by omega) (by omega) (by omega), hF 25 0 (by unfold own; omega), r3], r3'⟩
    · rw [w2 20 0 6 (by omega) (by omega) (by omega) (by omega) (by omega), hF 20 0 (by unfold own; omega)]; exact r4
    · rw [w2 20 0 4 (by omega) (by omega) (by omega) (by omega) (by omega), hF 20 0 (by unfold own; omega)]; exact r5
    · rw [w2 d i k (by omega) (by omega) (by omega) (by omega) (by omega), hF d i (by unfold own; omega)]
  · rw [if_neg e] at e1
    refine gd_no hR0 (M1 := M) (e := 1) (by omega) (by omega) ?_ (QC.rfl' M) ⟨iZ (-1), mT (mT M 0) 1, ?_, mT_9 _ _, (QR.mT _ _).tr (QR.mT _ _)⟩
    · unfold f_L_deliveredIf f_X7_deliveredIf
      rw [e1, bx_r, bxh_r]; rfl
    · show f_X8_deliveredIf _ _ = _
      unfold f_X8_deliveredIf
      rw [nm_s, mu0_mT, c64_1, c64_60, bdq (g_X8_in _ ha (by omega : i32 1) (by omega : i32 60)), bI_f e, if_pos (by decide), zc_1, mT_s, bd2_s]
/-! isConsistent. -/
theorem g_agree_18 {p h : Int} {A : Int → Int} (hO : Ok p h A) (hm : Rm p h) (k2 : Mem → Int32 → Option (Int32 × Mem)) {a : Int} (a0 : 0 ≤ a) (a1 : a < A 0) : ∀ (n f : Nat) (M : Mem) (b : Int), Cl M 0 A → 0 ≤ b → b + n = A 0 → n < f → ∃ D S, f_X7_bothArrivalsAgree_18 k2 f M (iZ a) (iZ b) = k2 (mW M D S) (iZ (a + 1)) := by
  have o2 := hO.2.1
  have t0 : 0 ≤ A 4 := hO.2.2.2.2.2.2.2.2.1
  have t1 : A 4 ≤ h := hO.2.2.2.2.2.2.2.2.2.1
  intro n
  induction n with
  | zero =>
    intro f M b hC b0 hb hf
    obtain ⟨f, rfl⟩ : ∃ g, f = g + 1 := ⟨f - 1, by omega⟩
    obtain ⟨D, S, hM⟩ := mW_ex M
    refine ⟨D, S, ?_⟩
    rw [← hM]
    have c0 := hC.1
    clear hO hC hM
    simp (disch := omega) only [f_X7_bothArrivalsAgree_18, c0, ↓reduceIte, ↓nm_s, ↓lk_s, ↓pc_s, z_add, z_sub, z_mul, z_neg, z_le, z_lt, z_eq, z_ix, z_vin, z_rem, zc_0, zc_1, zc_2, zc_3, zc_4, zc_5, zc_6, zc_7, zc_8, zc_9, zc_10, zc_12, zc_20, zc_60, zc_80, zc_108, zc_120, zc_185, zc_192, zc_1344, zc_9999, zc_FAR, zc_NEV, ite_T, ite_F, bd_s, bd2_s, rz_z, toNat_cast, mR_at, mR_ne, mu_mR, il_t, il_f, ilt_t, ilt_f, ieq_t, ieq_f, nlt_t]
  | succ n ih =>
    intro f M b hC b0 hb hf
    obtain ⟨f, rfl⟩ : ∃ g, f = g + 1 := ⟨f - 1, by omega⟩
    have t2 : A 4 ≤ 900000 := by unfold Rm at hm; omega
    obtain ⟨D1, S1, q1⟩ := g_settling hO hC a0 a1 t0 t2 b0 (by omega)
    obtain ⟨D2, S2, q2⟩ := g_byHours hO (Cl_mW D1 S1 hC) a0 a1 t0 t2 b0 (by omega)
    obtain ⟨D3, S3, q3⟩ := ih f (mW M D2 S2) (b + 1) (Cl_mW D2 S2 hC) (by omega) (by omega) (by omega)
    rw [mW_mW] at q2 q3
    refine ⟨D3, S3, ?_⟩
    rw [← q3]
    have hE := eT_in hO a0 a1 t0 t2 b0 (by omega : b < 9)
    have hN := nv_in hE.1 hE.2
    have c0 := hC.1
    have c4 := hC.2.2.2.2.1
    clear hO hC ih q3
    show (if M 2 0 1 ≤ iZ b then _ else _) = _
    rw [c0, if_neg (by rw [z_le (by omega) (by omega) (by omega) (by omega)]; omega), c4, q1, bd2_s, mW_ne _ _ _ (by omega), c4, q2, bd2_s, if_pos rfl, zc_1, z_add]
theorem g_agree_2 {p h : Int} {A : Int → Int} (hO : Ok p h A) (hm : Rm p h) : ∀ (n f : Nat) (M : Mem) (a : Int), Cl M 0 A → 0 ≤ a → a + n = A 0 → n < f → ∃ D S, f_X7_bothArrivalsAgree_2 f M (iZ a) = some (iZ 1, mW M D S) := by
  have o2 := hO.2.1
  intro n
  induction n with
  | zero =>
    intro f M a hC b0 hb hf
    obtain ⟨f, rfl⟩ : ∃ g, f = g + 1 := ⟨f - 1, by omega⟩
    obtain ⟨D, S, hM⟩ := mW_ex M
    refine ⟨D, S, ?_⟩
    rw [← hM]
    have c0 := hC.1
    clear hO hC hM
    simp (disch := omega) only [f_X7_bothArrivalsAgree_2, c0, ↓reduceIte, ↓nm_s, ↓lk_s, ↓pc_s, z_add, z_sub, z_mul, z_neg, z_le, z_lt, z_eq, z_ix, z_vin, z_rem, zc_0, zc_1, zc_2, zc_3, zc_4, zc_5, zc_6, zc_7, zc_8, zc_9, zc_10, zc_12, zc_20, zc_60, zc_80, zc_108, zc_120, zc_185, zc_192, zc_1344, zc_9999, zc_FAR, zc_NEV, ite_T, ite_F, bd_s, bd2_s, rz_z, toNat_cast, mR_at, mR_ne, mu_mR, il_t, il_f, ilt_t, ilt_f, ieq_t, ieq_f, nlt_t]
  | succ n ih =>
    intro f M a hC b0 hb hf
    obtain ⟨f, rfl⟩ : ∃ g, f = g + 1 := ⟨f - 1, by omega⟩
    obtain ⟨D1, S1, q1⟩ := g_agree_18 hO hm (f_X7_bothArrivalsAgree_2 f) b0 (by omega) (A 0).toNat FU M 0 hC (by omega) (by omega) (by unfold FU; omega)
    obtain ⟨D3, S3, q3⟩ := ih f (mW M D1 S1) (a + 1) (Cl_mW D1 S1 hC) (by omega) (by omega) (by omega)
    rw [mW_mW] at q3
    refine ⟨D3, S3, ?_⟩
    rw [← q3, ← q1]
    have c0 := hC.1
    clear hO hC ih q3 q1
    unfold f_X7_bothArrivalsAgree_2
    rw [c0, if_neg (by rw [z_le (by omega) (by omega) (by omega) (by omega)]; omega)]
    rfl
theorem g_noOver_2 {p h : Int} {M : Mem} {A : Int → Int} (hO : Ok p h A) (hm : Rm p h) (hR : Rw M 0) (hC : Cl M 0 A) : ∀ (n f : Nat) (i : Int), 0 ≤ i → i + n = A 1 → n < f → f_X5_noLinkIsOverloaded_2 M f 0 (iZ i) = some (iZ 1) := by
  have o4 := hO.2.2.2.1
  have c1 := hC.2.1
  intro n
  induction n with
  | zero =>
    intro f i i0 hi hf
    obtain ⟨f, rfl⟩ : ∃ g, f = g + 1 := ⟨f - 1, by omega⟩
    clear hO hC hR
    simp (disch := omega) only [f_X5_noLinkIsOverloaded_2, c1, ↓reduceIte, ↓nm_s, ↓lk_s, ↓pc_s, z_add, z_sub, z_mul, z_neg, z_le, z_lt, z_eq, z_ix, z_vin, z_rem, zc_0, zc_1, zc_2, zc_3, zc_4, zc_5, zc_6, zc_7, zc_8, zc_9, zc_10, zc_12, zc_20, zc_60, zc_80, zc_108, zc_120, zc_185, zc_192, zc_1344, zc_9999, zc_FAR, zc_NEV, ite_T, ite_F, bd_s, bd2_s, rz_z, toNat_cast, mR_at, mR_ne, mu_mR, il_t, il_f, ilt_t, ilt_f, ieq_t, ieq_f, nlt_t]
  | succ n ih =>
    intro f i i0 hi hf
    obtain ⟨f, rfl⟩ : ∃ g, f = g + 1 := ⟨f - 1, by omega⟩
    have hw := g_weightOn hO hm (by omega) hR hC (l := i) (by omega) (by omega)
    have s1 := sLoad_nn hO i
    have s2 := hO.2.2.2.2.2.2.2.2.2.2.2.2.2.2 i i0 (by omega)
    rw [← ih f (i + 1) (by omega) (by omega) (by omega)]
    clear hO hC hR ih
    simp (disch := omega) only [f_X5_noLinkIsOverloaded_2, c1, ↓bdq hw, ↓reduceIte, ↓nm_s, ↓lk_s, ↓pc_s, z_add, z_sub, z_mul, z_neg, z_le, z_lt, z_eq, z_ix, z_vin, z_rem, zc_0, zc_1, zc_2, zc_3, zc_4, zc_5, zc_6, zc_7, zc_8, zc_9, zc_10, zc_12, zc_20, zc_60, zc_80, zc_108, zc_120, zc_185, zc_192, zc_1344, zc_9999, zc_FAR, zc_NEV, ite_T, ite_F, bd_s, bd2_s, rz_z, toNat_cast, mR_at, mR_ne, mu_mR, il_t, il_f, ilt_t, ilt_f, ieq_t, ieq_f, nlt_t]
theorem q_isConsistent {n : Int} {M : Mem} (n0 : 0 ≤ n) (n1 : n ≤ 512) (hR : Rl n M) : ∃ r M1 M2, f_X7_isConsistent M = some (r, M1) ∧ f_X8_isConsistent M1 = some (r, M2) ∧ Rl (n + 1) M2 := by
  obtain ⟨A, p, h, hO, hm, hC, hW, hA⟩ := hR.view n0 n1
  have o2 := hO.2.1
  have o4 := hO.2.2.2.1
  have o11 := hO.2.2.2.2.2.2.2.2.2.2.1
  obtain ⟨D, S, q1⟩ := g_agree_2 hO hm.lo (A 0).toNat FU M 0 hC (by omega) (by have := hO.1; omega) (by unfold FU; omega)
  have q2 := g_noOver_2 hO hm.lo (Rw_rows (mW_ne M D S (by omega)) hW) (Cl_mW D S hC) (A 1).toNat FU 0 (by omega) (by have := hO.2.2.1; omega) (by unfold FU; omega)
  refine ⟨iZ 1, mW M D S, mT (mW M D S) 0, ?_, ?_, Rl.qt (fun d i k hd => ?_) hR⟩
  · unfold f_X7_isConsistent f_X7_bothArrivalsAgree f_X5_noLinkIsOverloaded
    rw [zc_0, q1, bd2_s, if_neg (by decide), bdq q2, if_neg (by decide), mW_ne _ _ _ (by omega), hC.2.2.2.1, hC.2.2.1, hC.2.2.2.2.2.1, hC.2.2.2.2.2.2.1, z_add, z_add, if_pos (by rw [o11])]
    rfl
  · unfold f_X8_isConsistent
    rw [nm_s, mu0_mT]; rfl
  · unfold mT; rw [mu_miss _ _ (by omega), mW_ne _ _ _ (by omega)]
