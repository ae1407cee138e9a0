/-! Error position, failed command, the buffer, undo, save, restore. -/
theorem q_errorPosition {n : Int} {M : Mem} (hR : Rl n M) : Gd n (f_L_errorPosition M) f_X8_errorPosition := by
  have h : M 0 0 9 = M 20 0 7 := by
    obtain ⟨A, S, Bf, o, c, v, hK, hL, hr, hx⟩ := hR
    exact hx.2.2.1
  by_cases c : M 0 0 9 = (-1 : Int32)
  · refine gd_no hR (M1 := M) (e := 1) (by omega) (by omega) ?_ (QC.rfl' M) ⟨iZ (-1), mT (mT M 0) 1, ?_, mT_9 _ _, (QR.mT _ _).tr (QR.mT _ _)⟩
    · unfold f_L_errorPosition f_X7_errorPosition
      rw [if_pos c, bxh_r]; rfl
    · unfold f_X8_errorPosition
      rw [nm_s, mu0_mT, show mT M 0 20 0 7 = M 20 0 7 from mu_miss _ _ (by omega), ← h, if_pos c, zc_1, mT_s, bd2_s]
  · refine gd_ok hR (M1 := M) (r := M 0 0 9) ?_ (QC.rfl' M) ⟨mT (mu M 33 0 0 (M 0 0 9)) 0, ?_, mT_9 _ _, QR.mT _ _⟩
    · unfold f_L_errorPosition f_X7_errorPosition
      rw [if_neg c, bxh_l, nm_s]; rfl
    · unfold f_X8_errorPosition
      rw [nm_s, mu0_mT, show mT (mu M 33 0 0 (M 0 0 9)) 0 20 0 7 = M 0 0 9 by rw [h]; unfold mT; rw [mu_miss _ _ (by omega), mu_miss _ _ (by omega)], if_neg c]
theorem q_failedCommand {n : Int} {M : Mem} (hR : Rl n M) : Gd n (f_L_failedCommand M) f_X8_failedCommand := by
  have h : M 0 0 10 = M 20 0 8 := by
    obtain ⟨A, S, Bf, o, c, v, hK, hL, hr, hx⟩ := hR
    exact hx.2.2.2.1
  by_cases c : M 0 0 10 = (-1 : Int32)
  · refine gd_no hR (M1 := M) (e := 1) (by omega) (by omega) ?_ (QC.rfl' M) ⟨iZ (-1), mT (mT M 0) 1, ?_, mT_9 _ _, (QR.mT _ _).tr (QR.mT _ _)⟩
    · unfold f_L_failedCommand f_X7_failedCommand
      rw [if_pos c, bxh_r]; rfl
    · unfold f_X8_failedCommand
      rw [nm_s, mu0_mT, show mT M 0 20 0 8 = M 20 0 8 from mu_miss _ _ (by omega), ← h, if_pos c, zc_1, mT_s, bd2_s]
  · refine gd_ok hR (M1 := M) (r := M 0 0 10) ?_ (QC.rfl' M) ⟨mT (mu M 33 0 0 (M 0 0 10)) 0, ?_, mT_9 _ _, QR.mT _ _⟩
    · unfold f_L_failedCommand f_X7_failedCommand
      rw [if_neg c, bxh_l, nm_s]; rfl
    · unfold f_X8_failedCommand
      rw [nm_s, mu0_mT, show mT (mu M 33 0 0 (M 0 0 10)) 0 20 0 8 = M 0 0 10 by rw [h]; unfold mT; rw [mu_miss _ _ (by omega), mu_miss _ _ (by omega)], if_neg c]
theorem isC_z {v : Int} (v0 : 0 ≤ v) (v1 : v ≤ 65535) : isC (iZ v) := by
  constructor
  · rw [zc_0, z_le (by omega) (by omega) (by omega) (by omega)]; exact v0
  · rw [show (65535 : Int32) = iZ 65535 from rfl, z_le (by omega) (by omega) (by omega) (by omega)]; exact v1
theorem q_append {n : Int} {M : Mem} (hR : Rl n M) (x : Int32) : Gd n (f_L_append M x) (fun M1 => f_X8_append M1 x) := by
  obtain ⟨a, rfl, ha⟩ := z_mk x
  have hR0 := hR
  obtain ⟨A, S, Bf, o, c, v, hK, hL, hr, hx⟩ := hR
  obtain ⟨⟨m, T, b0, b1, b2, b3, b4⟩, hx2⟩ := hx
  by_cases e : 32 ≤ a ∧ a ≤ 126
  · by_cases e2 : m < 60
    · have hi : isC (iZ a) = True := eq_true (isC_z (v := a) (by omega) (by omega))
      have h1 : f_L_append M (iZ a) = some (iZ 0, mu (mu (mu M 14 0 m.toNat (iZ a)) 13 0 1 (iZ (m + 1))) 33 0 0 (iZ (m + 1))) := by
        unfold f_L_append f_X7_append f_X4_take f_X4_take_29
        simp (disch := omega) only [b2, hi, bxh_l, mu_hit, mu_miss, zc_32, show (126 : Int32) = iZ 126 from rfl, ↓reduceIte, ↓nm_s, ↓lk_s, ↓pc_s, z_add, z_sub, z_mul, z_neg, z_le, z_lt, z_eq, z_ix, z_vin, z_rem, zc_0, zc_1, zc_2, zc_3, zc_4, zc_5, zc_6, zc_7, zc_8, zc_9, zc_10, zc_12, zc_20, zc_60, zc_80, zc_108, zc_120, zc_185, zc_192, zc_1344, zc_9999, zc_FAR, zc_NEV, ite_T, ite_F, bd_s, bd2_s, rz_z, toNat_cast, mR_at, mR_ne, mu_mR, il_t, il_f, ilt_t, ilt_f, ieq_t, ieq_f, nlt_t]
      have h2 : f_X8_append (mu (mu (mu M 14 0 m.toNat (iZ a)) 13 0 1 (iZ (m + 1))) 33 0 0 (iZ (m + 1))) (iZ a) = some (iZ (m + 1), mu (mu (mT (mu (mu (mu M 14 0 m.toNat (iZ a)) 13 0 1 (iZ (m + 1))) 33 0 0 (iZ (m + 1))) 0) 26 0 m.toNat (iZ a)) 20 0 11 (iZ (m + 1))) := by
        unfold f_X8_append
        rw [nm_s, mu0_mT, c64_32, c64_126, bdq (g_X8_in _ ha (by omega : i32 32) (by omega : i32 126)), bI_t e, if_neg n10]
        unfold mT
        simp (disch := omega) only [b3, mu_hit, mu_miss, ↓reduceIte, ↓nm_s, ↓lk_s, ↓pc_s, z_add, z_sub, z_mul, z_neg, z_le, z_lt, z_eq, z_ix, z_vin, z_rem, zc_0, zc_1, zc_2, zc_3, zc_4, zc_5, zc_6, zc_7, zc_8, zc_9, zc_10, zc_12, zc_20, zc_60, zc_80, zc_108, zc_120, zc_185, zc_192, zc_1344, zc_9999, zc_FAR, zc_NEV, ite_T, ite_F, bd_s, bd2_s, rz_z, toNat_cast, mR_at, mR_ne, mu_mR, il_t, il_f, ilt_t, ilt_f, ieq_t, ieq_f, nlt_t]
      refine ⟨_, _, _, _, h1, h2, ?_, fun _ => ?_, A, S, Bf, o, c, v, hK.mono (by omega) (by omega), hL.of (fun d i k hd => ?_), hr.of (fun d i k hd => ?_), ⟨m + 1, uI T m a, by omega, by omega, ?_, ?_, fun j j0 j1 => ?_⟩, ?_⟩
      · rw [mu_miss _ _ (by omega), mu_miss _ _ (by omega)]; exact mT_9 _ _
      · unfold mT; simp (disch := omega) only [mu_hit, mu_miss]
      · unfold mT; simp (disch := omega) only [mu_miss]
      · unfold mT; simp (disch := omega) only [mu_miss]
      · unfold mT; simp (disch := omega) only [mu_hit, mu_miss]
      · unfold mT; simp (disch := omega) only [mu_hit, mu_miss]
      · by_cases hj : j = m
        · subst hj
          rw [uI_eq]
          refine ⟨e.1, e.2, ?_, ?_⟩
          · unfold mT; simp (disch := omega) only [mu_hit, mu_miss]
          · unfold mT; simp (disch := omega) only [mu_hit, mu_miss]
        · rw [uI_ne _ _ hj]
          have hb := b4 j j0 (by omega)
          refine ⟨hb.1, hb.2.1, ?_, ?_⟩
          · unfold mT; simp (disch := omega) only [mu_miss]; exact hb.2.2.1
          · unfold mT; simp (disch := omega) only [mu_miss]; exact hb.2.2.2
      · obtain ⟨⟨l, q, T2, h3⟩, h4, h5, h6, h7⟩ := hx2
        refine ⟨⟨l, q, T2, h3.of (fun d i k hd => ?_)⟩, ?_, ?_, ?_, ?_⟩
        · unfold mT; simp (disch := omega) only [mu_miss]
        · unfold mT; simp (disch := omega) only [mu_miss]; exact h4
        · unfold mT; simp (disch := omega) only [mu_miss]; exact h5
        · rw [← h6]; funext k; unfold mT; simp (disch := omega) only [mu_miss]
        · rw [← h7]; funext k; unfold mT; simp (disch := omega) only [mu_miss]
    · refine gd_no hR0 (M1 := M) (e := 2) (by omega) (by omega) ?_ (QC.rfl' M) ⟨iZ (-1), mT (mT M 0) 2, ?_, mT_9 _ _, (QR.mT _ _).tr (QR.mT _ _)⟩
      · unfold f_L_append f_X7_append
        simp (disch := omega) only [b2, bxh_r, zc_32, show (126 : Int32) = iZ 126 from rfl, ↓reduceIte, ↓nm_s, ↓lk_s, ↓pc_s, z_add, z_sub, z_mul, z_neg, z_le, z_lt, z_eq, z_ix, z_vin, z_rem, zc_0, zc_1, zc_2, zc_3, zc_4, zc_5, zc_6, zc_7, zc_8, zc_9, zc_10, zc_12, zc_20, zc_60, zc_80, zc_108, zc_120, zc_185, zc_192, zc_1344, zc_9999, zc_FAR, zc_NEV, ite_T, ite_F, bd_s, bd2_s, rz_z, toNat_cast, mR_at, mR_ne, mu_mR, il_t, il_f, ilt_t, ilt_f, ieq_t, ieq_f, nlt_t]
        rfl
      · show f_X8_append _ _ = _
        unfold f_X8_append
        rw [nm_s, mu0_mT, c64_32, c64_126, bdq (g_X8_in _ ha (by omega : i32 32) (by omega : i32 126)), bI_t e, if_neg n10, show mT M 0 20 0 11 = M 20 0 11 from mu_miss _ _ (by omega), b3, if_pos (by rw [show m = 60 by omega]; rfl), zc_2, mT_s, bd2_s]
  · refine gd_no hR0 (M1 := M) (e := 1) (by omega) (by omega) ?_ (QC.rfl' M) ⟨iZ (-1), mT (mT M 0) 1, ?_, mT_9 _ _, (QR.mT _ _).tr (QR.mT _ _)⟩
    · unfold f_L_append f_X7_append f_X7_append_12
      by_cases e3 : a < 32
      · simp (disch := omega) only [bxh_r, zc_32, ↓reduceIte, ↓nm_s, ↓lk_s, ↓pc_s, z_add, z_sub, z_mul, z_neg, z_le, z_lt, z_eq, z_ix, z_vin, z_rem, zc_0, zc_1, zc_2, zc_3, zc_4, zc_5, zc_6, zc_7, zc_8, zc_9, zc_10, zc_12, zc_20, zc_60, zc_80, zc_108, zc_120, zc_185, zc_192, zc_1344, zc_9999, zc_FAR, zc_NEV, ite_T, ite_F, bd_s, bd2_s, rz_z, toNat_cast, mR_at, mR_ne, mu_mR, il_t, il_f, ilt_t, ilt_f, ieq_t, ieq_f, nlt_t]
      · simp (disch := omega) only [bxh_r, zc_32, show (126 : Int32) = iZ 126 from rfl, ↓reduceIte, ↓nm_s, ↓lk_s, ↓pc_s, z_add, z_sub, z_mul, z_neg, z_le, z_lt, z_eq, z_ix, z_vin, z_rem, zc_0, zc_1, zc_2, zc_3, zc_4, zc_5, zc_6, zc_7, zc_8, zc_9, zc_10, zc_12, zc_20, zc_60, zc_80, zc_108, zc_120, zc_185, zc_192, zc_1344, zc_9999, zc_FAR, zc_NEV, ite_T, ite_F, bd_s, bd2_s, rz_z, toNat_cast, mR_at, mR_ne, mu_mR, il_t, il_f, ilt_t, ilt_f, ieq_t, ieq_f, nlt_t]
    · show f_X8_append _ _ = _
      unfold f_X8_append
      rw [nm_s, mu0_mT, c64_32, c64_126, bdq (g_X8_in _ ha (by omega : i32 32) (by omega : i32 126)), bI_f e, if_pos (by decide), zc_1, mT_s, bd2_s]
theorem Lc.move {p h : Int} {M M1 : Mem} {A A2 S : Int → Int} {Bf : Int → Int → Int} {o c v : Int} (hK : Lk p h A S Bf o c v) (hL : Lc M A S Bf o c v) (hF : FS2 0 M M1) (hR : Rw M1 0) (hC : Cl M1 0 A2) {c2 : Int} (hc : c2 ≤ c) (h1 : M1 11 0 1 = iZ o) (h2 : M1 11 0 2 = iZ c2) : Lc M1 A2 S Bf o c2 v := by
  obtain ⟨hO, o0, o1, c0, c1, hH, hv, hS⟩ := hK
  obtain ⟨l1, l2, l3, l4, l5, l6, l7⟩ := hL
  refine ⟨hC, fun s hs => ?_, h1, h2, fun j j0 j1 => ?_, ?_, fun hv1 => ?_⟩
  · by_cases e : 0 = s
    · rw [← e]; exact hR
    · exact Rw_FS e hF (l2 s hs)
  · exact Cl_FS (hH j j0 (by omega)) (by unfold st8; omega) hF (l2 _ (by unfold st8; omega)) (l5 j j0 (by omega))
  · rw [hF 0 0 (by unfold own; omega) (by omega)]; exact l6
  · exact Cl_FS (hS hv1) (by omega) hF (l2 2 (by omega)) (l7 hv1)
theorem q_undo {n : Int} {M : Mem} (n0 : 0 ≤ n) (n1 : n ≤ 512) (hR : Rl n M) : Gd n (f_L_undo M) f_X8_undo := by
  have hR0 := hR
  obtain ⟨A, S, Bf, o, c, v, hK, hL, hr, hx⟩ := hR
  by_cases e : c = 0
  · refine gd_no hR0 (M1 := M) (e := 1) (by omega) (by omega) ?_ (QC.rfl' M) ⟨iZ (-1), mT (mT M 0) 1, ?_, mT_9 _ _, (QR.mT _ _).tr (QR.mT _ _)⟩
    · unfold f_L_undo f_X7_undo
      rw [hL.2.2.2.1, e, if_pos (by decide), bxh_r]; rfl
    · unfold f_X8_undo
      rw [nm_s, mu0_mT, show mT M 0 20 0 6 = M 20 0 6 from mu_miss _ _ (by omega), hr.2.2.2.1, e, if_pos (by decide), zc_1, mT_s, bd2_s]
  · have hK0 := hK
    have hL0 := hL
    obtain ⟨hO, o0, o1, c0, c1, hH, hv, hS⟩ := hK
    obtain ⟨l1, l2, l3, l4, l5, l6, l7⟩ := hL
    obtain ⟨r1, r2, ⟨B, r3, r3'⟩, r4, r5⟩ := hr
    have hn : ¬ (iZ c = (0 : Int32)) := by rw [zc_0]; exact ne_z (by omega) (by omega) e
    obtain ⟨M1, q1, q2, q3, q4, q5, q6⟩ := g_bringBack (hH (c - 1) (by omega) (by omega)) l3 l4 o0 o1 (by omega) c1 l2 (l5 (c - 1) (by omega) (by omega))
    have h1 : f_L_undo M = some (iZ 0, mu M1 33 0 0 (iZ (c - 1))) := by
      unfold f_L_undo f_X7_undo
      rw [l4, if_neg hn, bdq q1, q6, bxh_l, nm_s]; rfl
    have w : ∀ d i k, d ≠ 33 → ¬ (d = 20 ∧ (k = 6 ∨ k = 9)) → mu (mT (mu M1 33 0 0 (iZ (c - 1))) 0) 20 0 6 (iZ (c - 1)) d i k = M1 d i k := fun d i k a1 a2 => by
      rw [mu_miss _ _ (by omega)]; unfold mT; rw [mu_miss _ _ (by omega), mu_miss _ _ (by omega)]
    have w25 : mu (mT (mu M1 33 0 0 (iZ (c - 1))) 0) 20 0 6 (iZ (c - 1)) 25 0 = rz B := by funext k; rw [w 25 0 k (by omega) (by omega), q4 25 0 (by unfold own; omega) (by omega), r3]
    have w21 : mu (mT (mu M1 33 0 0 (iZ (c - 1))) 0) 20 0 6 (iZ (c - 1)) 21 0 = rz A := by funext k; rw [w 21 0 k (by omega) (by omega), q4 21 0 (by unfold own; omega) (by omega), r1]
    obtain ⟨A2, p1, p2⟩ := g_undo_30 (B := B) (c := c - 1) (by omega) (by omega) 192 FU _ A 0 w25 (mu_hit _ _ _ _ _) (by omega) (by omega) (by unfold FU; omega) (fun j j0 j1 => by omega)
    rw [mR_id w21] at p1
    have hE : Eq192 (Bf (c - 1)) A2 := fun j j0 j1 => by rw [p2 j j0 j1]; exact r3' (c - 1) (by omega) (by omega) j j0 j1
    have hm := Lc.move (A2 := A2) hK0 hL0 q4 q3 (Cl_cg (hH (c - 1) (by omega) (by omega)) hE q2) (c2 := c - 1) (by omega) q5 q6
    have w2 : ∀ d i k, d ≠ 33 → d ≠ 21 → ¬ (d = 20 ∧ (k = 6 ∨ k = 9)) → mR (mu (mT (mu M1 33 0 0 (iZ (c - 1))) 0) 20 0 6 (iZ (c - 1))) 21 0 A2 d i k = M1 d i k := fun d i k a1 a2 a3 => by
      rw [mR_ne _ _ (by omega), w d i k a1 a3]
    refine ⟨_, _, iZ (c - 1), mR (mu (mT (mu M1 33 0 0 (iZ (c - 1))) 0) 20 0 6 (iZ (c - 1))) 21 0 A2, h1, ?_, ?_, fun _ => ?_, A2, S, Bf, o, c - 1, v, ⟨(Ok_cg (hH (c - 1) (by omega) (by omega)) hE).mono (by omega) (by omega), o0, o1, by omega, by omega, fun j j0 j1 => (hH j j0 (by omega)).mono (by omega) (by omega), hv, fun hv1 => (hS hv1).mono (by omega) (by omega)⟩, hm.of (fun d i k hd => w2 d i k (by omega) (by omega) (by omega)), ⟨mR_at _ _ _ _, ?_, ⟨B, ?_, fun i i0 i1 => r3' i i0 (by omega)⟩, ?_, ?_⟩, hx.of (fun d i k hd => ?_)⟩
    · unfold f_X8_undo
      rw [nm_s, mu0_mT, show mT (mu M1 33 0 0 (iZ (c - 1))) 0 20 0 6 = iZ c by unfold mT; rw [mu_miss _ _ (by omega), mu_miss _ _ (by omega), q4 20 0 (by unfold own; omega) (by omega)]; exact r4, if_neg hn, zc_1, z_sub, nm_s, zc_0, p1]
    · rw [mR_ne _ _ (by omega), mu_miss _ _ (by omega)]; exact mT_9 _ _
    · rw [mR_ne _ _ (by omega), mu_miss _ _ (by omega)]; unfold mT; rw [mu_miss _ _ (by omega)]; exact mu_hit _ _ _ _ _
    · funext k; rw [w2 24 0 k (by omega) (by omega) (by omega), q4 24 0 (by unfold own; omega) (by omega), r2]
    · funext k; rw [w2 25 0 k (by omega) (by omega) (by omega), q4 25 0 (by unfold own; omega) (by omega), r3]
    · rw [mR_ne _ _ (by omega)]; exact mu_hit _ _ _ _ _
    · rw [w2 20 0 4 (by omega) (by omega) (by omega), q4 20 0 (by unfold own; omega) (by omega)]; exact r5
    · rw [w2 d i k (by omega) (by omega) (by omega), q4 d i (by unfold own; omega) (by omega)]
theorem q_save {n : Int} {M : Mem} (n0 : 0 ≤ n) (n1 : n ≤ 512) (hR : Rl n M) : ∃ r M1 M2, f_X7_save M = some (r, M1) ∧ f_X8_save M1 = some (r, M2) ∧ Rl (n + 1) M2 := by
  obtain ⟨A, S, Bf, o, c, v, ⟨hO, o0, o1, c0, c1, hH, hv, hS⟩, ⟨l1, l2, l3, l4, l5, l6, l7⟩, ⟨r1, r2, r3, r4, r5⟩, hx⟩ := hR
  obtain ⟨M1, q1, q2, q3, q4⟩ := g_copySrv hO (s := 2) (t := 0) (by omega) (by omega) (by omega) (l2 2 (by omega)) (l2 0 (by omega)) l1
  have hF : FS2 2 M M1 := q4.two
  have hC0 : Cl M1 0 A := Cl_FS hO (by omega) hF (l2 0 (by omega)) l1
  obtain ⟨C0, -, -, hC24⟩ := mR_self (mT (mu M1 0 0 3 (iZ 1)) 0) 24 0
  have w : ∀ d i k, ¬ (d = 0 ∧ k = 3) → ¬ (d = 20 ∧ k = 9) → mT (mu M1 0 0 3 (iZ 1)) 0 d i k = M1 d i k := fun d i k a1 a2 => by
    unfold mT; rw [mu_miss _ _ (by omega), mu_miss _ _ (by omega)]
  obtain ⟨C2, p1, p2⟩ := g_save_7 (A := A) 192 FU (mT (mu M1 0 0 3 (iZ 1)) 0) C0 0 (by funext k; rw [w 21 0 k (by omega) (by omega), q4 21 0 (by unfold own; omega), r1]) (by omega) (by omega) (by unfold FU; omega) (fun j j0 j1 => by omega)
  rw [← hC24] at p1
  have w2 : ∀ d i k, ¬ (d = 0 ∧ k = 3) → d ≠ 24 → ¬ (d = 20 ∧ (k = 4 ∨ k = 9)) → mu (mR (mT (mu M1 0 0 3 (iZ 1)) 0) 24 0 C2) 20 0 4 (iZ 1) d i k = M1 d i k := fun d i k a1 a2 a3 => by
    rw [mu_miss _ _ (by omega), mR_ne _ _ (by omega), w d i k a1 (by omega)]
  have hr : ∀ d i, d = 1 ∨ d = 2 ∨ d = 4 ∨ d = 5 ∨ d = 6 → mu (mR (mT (mu M1 0 0 3 (iZ 1)) 0) 24 0 C2) 20 0 4 (iZ 1) d i = M1 d i := fun d i hd => funext fun k => w2 d i k (by omega) (by omega) (by omega)
  have hE : Eq192 A C2 := fun j j0 j1 => p2 j j0 j1
  refine ⟨iZ (A 0), mu M1 0 0 3 (iZ 1), mu (mR (mT (mu M1 0 0 3 (iZ 1)) 0) 24 0 C2) 20 0 4 (iZ 1), ?_, ?_, A, C2, Bf, o, c, 1, ⟨hO.mono (by omega) (by omega), o0, o1, c0, c1, fun j j0 j1 => (hH j j0 j1).mono (by omega) (by omega), .inr rfl, fun _ => (Ok_cg hO hE).mono (by omega) (by omega)⟩, ⟨Cl_rows hr hC0, fun s hs => Rw_rows (hr 5 s (by omega)) ?_, ?_, ?_, fun j j0 j1 => Cl_rows hr (Cl_FS (hH j j0 j1) (by unfold st8; omega) hF (l2 _ (by unfold st8; omega)) (l5 j j0 j1)), ?_, fun _ => Cl_rows hr (Cl_cg hO hE q2)⟩, ⟨?_, ?_, ?_, ?_, ?_⟩, hx.of (fun d i k hd => ?_)⟩
  · unfold f_X7_save
    rw [bdq q1, nm_s]
    show some (mu M1 0 0 3 (iZ 1) 2 0 1, mu M1 0 0 3 (iZ 1)) = _
    rw [mu_miss _ _ (by omega), hC0.1]
  · unfold f_X8_save
    rw [nm_s, mu0_mT, zc_0, p1]
  · by_cases e : 2 = s
    · rw [← e]; exact q3
    · exact Rw_FS e hF (l2 s hs)
  · rw [w2 11 0 1 (by omega) (by omega) (by omega), q4 11 0 (by unfold own; omega)]; exact l3
  · rw [w2 11 0 2 (by omega) (by omega) (by omega), q4 11 0 (by unfold own; omega)]; exact l4
  · rw [mu_miss _ _ (by omega), mR_ne _ _ (by omega)]; unfold mT; rw [mu_miss _ _ (by omega)]; exact mu_hit _ _ _ _ _
  · funext k; rw [w2 21 0 k (by omega) (by omega) (by omega), q4 21 0 (by unfold own; omega), r1]
  · rw [mu_ne _ _ _ (by omega)]; exact mR_at _ _ _ _
  · obtain ⟨B, r3, r3'⟩ := r3
    exact ⟨B, by funext k; rw [w2 25 0 k (by omega) (by omega) (by omega), q4 25 0 (by unfold own; omega), r3], r3'⟩
  · rw [w2 20 0 6 (by omega) (by omega) (by omega), q4 20 0 (by unfold own; omega)]; exact r4
  · exact mu_hit _ _ _ _ _
  · rw [w2 d i k (by omega) (by omega) (by omega), q4 d i (by unfold own; omega)]
theorem q_restore {n : Int} {M : Mem} (n0 : 0 ≤ n) (n1 : n ≤ 512) (hR : Rl n M) : Gd n (f_L_restore M) f_X8_restore := by
  have hR0 := hR
  obtain ⟨A, S, Bf, o, c, v, hK, hL, hr, hx⟩ := hR
  obtain hv0 | hv1 := hK.2.2.2.2.2.2.1
  · refine gd_no hR0 (M1 := M) (e := 1) (by omega) (by omega) ?_ (QC.rfl' M) ⟨iZ (-1), mT (mT M 0) 1, ?_, mT_9 _ _, (QR.mT _ _).tr (QR.mT _ _)⟩
    · unfold f_L_restore f_X7_restore
      rw [hL.2.2.2.2.2.1, hv0, if_pos (by decide), bxh_r]; rfl
    · unfold f_X8_restore
      rw [nm_s, mu0_mT, show mT M 0 20 0 4 = M 20 0 4 from mu_miss _ _ (by omega), hr.2.2.2.2, hv0, if_pos (by decide), zc_1, mT_s, bd2_s]
  · have hK0 := hK
    have hL0 := hL
    obtain ⟨hO, o0, o1, c0, c1, hH, hv, hS⟩ := hK
    obtain ⟨l1, l2, l3, l4, l5, l6, l7⟩ := hL
    obtain ⟨r1, r2, ⟨B, r3, r3'⟩, r4, r5⟩ := hr
    obtain ⟨M1, q1, q2, q3, q4⟩ := g_copySrv (hS hv1) (s := 0) (t := 2) (by omega) (by omega) (by omega) (l2 0 (by omega)) (l2 2 (by omega)) (l7 hv1)
    have hF : FS2 0 M (mu M1 11 0 2 (iZ 0)) := fun d i a1 a2 => by rw [mu_ne _ _ _ (by omega), q4 d i a1]
    have h1 : f_L_restore M = some (iZ 0, mu (mu M1 11 0 2 (iZ 0)) 33 0 0 (iZ (S 0))) := by
      unfold f_L_restore f_X7_restore f_X0_forget
      rw [l6, hv1, if_neg n10, bdq q1, nm_s, bd_s]
      show bxh (some (.inl (mu M1 11 0 2 (iZ 0) 2 0 1), mu M1 11 0 2 (iZ 0))) _ _ = _
      rw [mu_miss _ _ (by omega), q2.1, bxh_l, nm_s]; rfl
    have w : ∀ d i k, d ≠ 33 → ¬ (d = 11 ∧ k = 2) → ¬ (d = 20 ∧ k = 9) → mT (mu (mu M1 11 0 2 (iZ 0)) 33 0 0 (iZ (S 0))) 0 d i k = M1 d i k := fun d i k a1 a2 a3 => by
      unfold mT; rw [mu_miss _ _ (by omega), mu_miss _ _ (by omega), mu_miss _ _ (by omega)]
    have w21 : mT (mu (mu M1 11 0 2 (iZ 0)) 33 0 0 (iZ (S 0))) 0 21 0 = rz A := by funext k; rw [w 21 0 k (by omega) (by omega) (by omega), q4 21 0 (by unfold own; omega), r1]
    have w24 : mT (mu (mu M1 11 0 2 (iZ 0)) 33 0 0 (iZ (S 0))) 0 24 0 = rz S := by funext k; rw [w 24 0 k (by omega) (by omega) (by omega), q4 24 0 (by unfold own; omega), r2]
    obtain ⟨A2, p1, p2⟩ := g_restore_20 (S := S) 192 FU _ A 0 w24 (by omega) (by omega) (by unfold FU; omega) (fun j j0 j1 => by omega)
    rw [mR_id w21] at p1
    have hE : Eq192 S A2 := fun j j0 j1 => p2 j j0 j1
    have hm := Lc.move (A2 := A2) hK0 hL0 hF (Rw_mu (by omega) q3) (Cl_rows (fun d i hd => mu_ne _ _ _ (by omega)) (Cl_cg (hS hv1) hE q2)) (c2 := 0) (by omega) (by rw [mu_miss _ _ (by omega), q4 11 0 (by unfold own; omega)]; exact l3) (mu_hit _ _ _ _ _)
    have w2 : ∀ d i k, d ≠ 33 → d ≠ 21 → ¬ (d = 20 ∧ (k = 6 ∨ k = 9)) → mu (mR (mT (mu (mu M1 11 0 2 (iZ 0)) 33 0 0 (iZ (S 0))) 0) 21 0 A2) 20 0 6 (iZ 0) d i k = mu M1 11 0 2 (iZ 0) d i k := fun d i k a1 a2 a3 => by
      rw [mu_miss _ _ (by omega), mR_ne _ _ (by omega)]; unfold mT; rw [mu_miss _ _ (by omega), mu_miss _ _ (by omega)]
    have e0 : A2 0 = S 0 := p2 0 (by omega) (by omega)
    refine ⟨_, _, iZ (S 0), mu (mR (mT (mu (mu M1 11 0 2 (iZ 0)) 33 0 0 (iZ (S 0))) 0) 21 0 A2) 20 0 6 (iZ 0), h1, ?_, ?_, fun _ => ?_, A2, S, Bf, o, 0, v, ⟨(Ok_cg (hS hv1) hE).mono (by omega) (by omega), o0, o1, by omega, by omega, fun j j0 j1 => by omega, hv, fun _ => (hS hv1).mono (by omega) (by omega)⟩, hm.of (fun d i k hd => w2 d i k (by omega) (by omega) (by omega)), ⟨?_, ?_, ⟨B, ?_, fun i i0 i1 => by omega⟩, mu_hit _ _ _ _ _, ?_⟩, hx.of (fun d i k hd => ?_)⟩
    · unfold f_X8_restore
      rw [nm_s, mu0_mT, show mT (mu (mu M1 11 0 2 (iZ 0)) 33 0 0 (iZ (S 0))) 0 20 0 4 = iZ 1 by rw [w 20 0 4 (by omega) (by omega) (by omega), q4 20 0 (by unfold own; omega), r5, hv1], if_neg n10, zc_0, p1, e0]
    · rw [mu_miss _ _ (by omega), mR_ne _ _ (by omega)]; exact mT_9 _ _
    · rw [mu_miss _ _ (by omega), mR_ne _ _ (by omega)]; unfold mT; rw [mu_miss _ _ (by omega)]; exact mu_hit _ _ _ _ _
    · rw [mu_ne _ _ _ (by omega)]; exact mR_at _ _ _ _
    · funext k; rw [w2 24 0 k (by omega) (by omega) (by omega), mu_miss _ _ (by omega), q4 24 0 (by unfold own; omega), r2]
    · funext k; rw [w2 25 0 k (by omega) (by omega) (by omega), mu_miss _ _ (by omega), q4 25 0 (by unfold own; omega), r3]
    · rw [w2 20 0 4 (by omega) (by omega) (by omega), mu_miss _ _ (by omega), q4 20 0 (by unfold own; omega)]; exact r5
    · rw [w2 d i k (by omega) (by omega) (by omega), mu_miss _ _ (by omega), q4 d i (by unfold own; omega)]
