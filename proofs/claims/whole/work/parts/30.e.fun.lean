/-- a link's text -/
def txL (A : Int → Int) (k : Int) : List Int := dg k ++ [40] ++ dg (A (8 + 5 * k)) ++ [45] ++ dg (A (8 + 5 * k + 1)) ++ [41, 32] ++ dg (A (8 + 5 * k + 2)) ++ [104, 47] ++ dg (A (8 + 5 * k + 3)) ++ (if A (8 + 5 * k + 4) = 0 then [] else [32, 120]) ++ (if 0 < sLoad A k then [32, 119] ++ dg (sLoad A k) else [])
theorem lnk_of {p h : Int} {A : Int → Int} (hO : Ok p h A) {k : Int} (k0 : 0 ≤ k) (k1 : k < A 1) : lnk A k := hO.2.2.2.2.2.2.2.2.2.2.2.1 k k0 k1
set_option maxHeartbeats 4000000 in
theorem s_link {p h : Int} {M : Mem} {A : Int → Int} (hO : Ok p h A) (hC : Cl M 0 A) {k : Int} (k0 : 0 ≤ k) (k1 : k < A 1) {q : Int} (hT : TC M (dg k) q) : ∃ M2 q2, f_X1_writeTo M (20 * 0 + k.toNat) (iZ (sLoad A k)) = some M2 ∧ TC M2 (txL A k) q2 ∧ Ft M M2 := by
  have hk := lnk_of hO k0 k1
  have o2 := hO.2.1
  have o4 := hO.2.2.2.1
  have s1 := sLoad_nn hO k
  have s2 := hO.2.2.2.2.2.2.2.2.2.2.2.2.2.2 k k0 k1
  obtain ⟨c0, c1, c2, c3, c4⟩ := hC.2.2.2.2.2.2.2.2.1 k k0 k1
  unfold lnk at hk
  have b0 : 0 ≤ A (8 + 5 * k) ∧ A (8 + 5 * k) < 10 := by omega
  have b1 : 0 ≤ A (8 + 5 * k + 1) ∧ A (8 + 5 * k + 1) < 10 := by omega
  have b2 : 0 ≤ A (8 + 5 * k + 2) ∧ A (8 + 5 * k + 2) < 10 := by omega
  have b3 : 0 ≤ A (8 + 5 * k + 3) ∧ A (8 + 5 * k + 3) < 10 := by omega
  have b4 : A (8 + 5 * k + 4) = 0 ∨ A (8 + 5 * k + 4) = 1 := by omega
  have b5 : sLoad A k < 100 := by omega
  have b6 : k < 100 := by omega
  have d0 := dg_le.2.1 b0.2
  have d1 := dg_le.2.1 b1.2
  have d2 := dg_le.2.1 b2.2
  have d3 := dg_le.2.1 b3.2
  have d5 := dg_le.2.2.1 b5
  have d6 := dg_le.2.2.1 b6
  clear hk hO o2 o4 s2 hC
  unfold f_X1_writeTo
  generalize 20 * 0 + k.toNat = x at *
  obtain ⟨M1, q1, e1, t1, f1⟩ := sb_char hT (c := 40) (by omega) (by omega) (by omega)
  obtain ⟨M2, q2, e2, t2, f2⟩ := sb_int t1 (v := A (8 + 5 * k)) b0.1 (by omega) (by simp only [List.length_append, List.length_cons, List.length_nil]; omega)
  have f2 := f1.tr f2
  obtain ⟨M3, q3, e3, t3, f3⟩ := sb_char t2 (c := 45) (by simp only [List.length_append, List.length_cons, List.length_nil]; omega) (by omega) (by omega)
  have f3 := f2.tr f3
  obtain ⟨M4, q4, e4, t4, f4⟩ := sb_int t3 (v := A (8 + 5 * k + 1)) b1.1 (by omega) (by simp only [List.length_append, List.length_cons, List.length_nil]; omega)
  have f4 := f3.tr f4
  obtain ⟨M5, q5, e5, t5, f5⟩ := sb_str (i := 14) (by omega) t4 (by rw [cst_14]; simp only [List.length_append, List.length_cons, List.length_nil]; omega)
  have f5 := f4.tr f5
  rw [cst_14] at t5
  obtain ⟨M6, q6, e6, t6, f6⟩ := sb_int t5 (v := A (8 + 5 * k + 2)) b2.1 (by omega) (by simp only [List.length_append, List.length_cons, List.length_nil]; omega)
  have f6 := f5.tr f6
  obtain ⟨M7, q7, e7, t7, f7⟩ := sb_str (i := 15) (by omega) t6 (by rw [cst_15]; simp only [List.length_append, List.length_cons, List.length_nil]; omega)
  have f7 := f6.tr f7
  rw [cst_15] at t7
  obtain ⟨M8, q8, e8, t8, f8⟩ := sb_int t7 (v := A (8 + 5 * k + 3)) b3.1 (by omega) (by simp only [List.length_append, List.length_cons, List.length_nil]; omega)
  have f8 := f7.tr f8
  rw [show (40 : Int32) = iZ 40 from rfl, bdq e1, ft4 f1, c0, bdq e2, show (45 : Int32) = iZ 45 from rfl, bdq e3, ft4 f3, c1, bdq e4, bdq e5, ft4 f5, c2, bdq e6, bdq e7, ft4 f7, c3, bdq e8, ft4 f8, c4]
  have hend : ∀ (M9 : Mem) (q9 : Int) (tx : List Int), TC M9 tx q9 → tx.length + 4 ≤ 34 → ∃ Ma qa, f_X1_writeTo_66 M9 (iZ (sLoad A k)) = some Ma ∧ TC Ma (tx ++ (if 0 < sLoad A k then [32, 119] ++ dg (sLoad A k) else [])) qa ∧ Ft M9 Ma := fun M9 q9 tx t9 hl => by
    unfold f_X1_writeTo_66
    by_cases c : 0 < sLoad A k
    · rw [if_pos c, if_neg (show ¬ (iZ (sLoad A k) ≤ 0) by rw [zc_0, z_le (by omega) (by omega) (by omega) (by omega)]; omega)]
      obtain ⟨Ma, qa, ea, ta, fa⟩ := sb_str (i := 17) (by omega) t9 (by rw [cst_17]; simp only [List.length_cons, List.length_nil]; omega)
      rw [cst_17] at ta
      obtain ⟨Mb, qb, eb, tb, fb⟩ := sb_int ta (v := sLoad A k) s1.1 (by omega) (by simp only [List.length_append, List.length_cons, List.length_nil]; omega)
      refine ⟨Mb, qb, by rw [bdq ea, bdq eb], ?_, fa.tr fb⟩
      rw [List.append_assoc] at tb
      exact tb
    · rw [if_neg c, if_pos (show iZ (sLoad A k) ≤ 0 by rw [zc_0, z_le (by omega) (by omega) (by omega) (by omega)]; omega)]
      exact ⟨M9, q9, rfl, by rw [List.append_nil]; exact t9, fun _ _ _ _ _ => rfl⟩
  unfold txL
  obtain b4 | b4 := b4
  · obtain ⟨Ma, qa, ea, ta, fa⟩ := hend M8 q8 _ t8 (by simp only [List.length_append, List.length_cons, List.length_nil]; omega)
    refine ⟨Ma, qa, ?_, ?_, f8.tr fa⟩
    · rw [b4, if_pos (by decide), ea]
    · rw [if_pos b4, List.append_nil]; exact ta
  · obtain ⟨M9, q9, e9, t9, f9⟩ := sb_str (i := 16) (by omega) t8 (by rw [cst_16]; simp only [List.length_append, List.length_cons, List.length_nil]; omega)
    rw [cst_16] at t9
    obtain ⟨Ma, qa, ea, ta, fa⟩ := hend M9 q9 _ t9 (by simp only [List.length_append, List.length_cons, List.length_nil]; omega)
    refine ⟨Ma, qa, ?_, ?_, (f8.tr f9).tr fa⟩
    · rw [b4, if_neg (by decide), bdq e9, ea]
    · rw [if_neg (by omega : ¬ A (8 + 5 * k + 4) = 0)]; exact ta
/-! the reference's lines -/
theorem vz {e : Int} (e0 : 0 ≤ e) (e1 : e < 192) : vin (iZ e) 192 := of_eq_true (z_vin e0 (by omega) (by omega))
theorem rd {M : Mem} {A : Int → Int} (hA : M 21 0 = rz A) {e : Int} (e0 : 0 ≤ e) (e1 : e < 192) : M 21 0 (ix (iZ e)) = iZ (A e) := by rw [hA, z_ix (by omega) (by omega), rz_z e0]
theorem fs21 {M M2 : Mem} {A : Int → Int} (h : Fs M M2) (hA : M 21 0 = rz A) : M2 21 0 = rz A := by rw [← hA]; funext k; exact h 21 0 k (by omega) (by omega)
theorem tr0 (M : Mem) : TR (mu M 20 0 15 (iZ 0)) [] := ⟨mu_hit _ _ _ _ _, fun j hj => absurd hj (Nat.not_lt_zero j)⟩
set_option maxHeartbeats 4000000 in
theorem r_parcel {p h : Int} {M : Mem} {A : Int → Int} (hO : Ok p h A) (hm : Rm p (h + 120)) (hA : M 21 0 = rz A) {a : Int} (ha : i32 a) (hp : sPos A a ≠ -1) : ∃ M2, f_X8_formatParcel M (iZ a) = some (iZ (txP A (sPos A a)).length, M2) ∧ TR M2 (txP A (sPos A a)) ∧ M2 20 0 9 = iZ 0 ∧ ∀ d i l, d ≠ 29 → ¬ (d = 20 ∧ (l = 9 ∨ l = 15)) → M2 d i l = M d i l := by
  have hpi := sPos_in hO a
  have k0 : 0 ≤ sPos A a := by omega
  have k1 : sPos A a < A 2 := by omega
  have hid : A (108 + 7 * sPos A a) = a := by omega
  have hk := pcl_of hO k0 k1
  have o2 := hO.2.1
  have o4 := hO.2.2.2.1
  have o6 := hO.2.2.2.2.2.1
  have o8 : A 3 ≤ p := hO.2.2.2.2.2.2.2.1
  have h1 := g_X8_find hO hm.lo (mT21 0 hA) ha
  unfold pcl at hk
  unfold Rm at hm
  generalize sPos A a = k at *
  have b0 : 0 ≤ A (108 + 7 * k) ∧ A (108 + 7 * k) < 10000 := by omega
  have b1 : 0 ≤ A (108 + 7 * k + 1) ∧ A (108 + 7 * k + 1) < 10 := by omega
  have b2 : 0 ≤ A (108 + 7 * k + 2) ∧ A (108 + 7 * k + 2) < 10 := by omega
  have b3 : 0 ≤ A (108 + 7 * k + 3) ∧ A (108 + 7 * k + 3) < 100 := by omega
  have b4 : A (108 + 7 * k + 4) ≠ -1 → 0 ≤ A (108 + 7 * k + 4) ∧ A (108 + 7 * k + 4) < 10 := by omega
  have b5 : A (108 + 7 * k + 4) = -1 → 0 ≤ A (108 + 7 * k + 5) ∧ A (108 + 7 * k + 5) < 100 := by omega
  have b6 : A (108 + 7 * k + 4) = -1 → 0 ≤ A (108 + 7 * k + 6) ∧ A (108 + 7 * k + 6) < 1000000 := by omega
  have d0 := dg_le.2.2.2 b0.2
  have d1 := dg_le.2.1 b1.2
  have d2 := dg_le.2.1 b2.2
  have d3 := dg_le.2.2.1 b3.2
  have d4 := fun e => dg_le.2.1 (b4 e).2
  have d5 := fun e => dg_le.2.2.1 (b5 e).2
  have d6 := (dg_le (v := A (108 + 7 * k + 6))).1
  have k2 : k < 12 := by omega
  clear hk hm hO o2 o4 o8 hpi o6
  rw [← hid] at h1 ⊢
  have hn : ¬ (iZ k = (-1 : Int32)) := by rw [zc_m1]; exact ne_z (by omega) (by omega) (by omega)
  have hA0 : mu (mT M 0) 20 0 15 (iZ 0) 21 0 = rz A := by rw [mu_ne _ _ _ (by omega)]; exact mT21 0 hA
  obtain ⟨M1, e1, t1, f1⟩ := r_sign (tr0 (mT M 0)) (by show 0 + 1 ≤ 60; omega) 35
  obtain ⟨M2, e2, t2, f2⟩ := r_num t1 (v := A (108 + 7 * k)) b0.1 (by omega) (by simp only [List.length_append, List.length_cons, List.length_nil]; omega)
  have f2 := f1.tr f2
  obtain ⟨M3, e3, t3, f3⟩ := r_sign t2 (by simp only [List.length_append, List.length_cons, List.length_nil]; omega) 32
  have f3 := f2.tr f3
  obtain ⟨M4, e4, t4, f4⟩ := r_num t3 (v := A (108 + 7 * k + 2)) b2.1 (by omega) (by simp only [List.length_append, List.length_cons, List.length_nil]; omega)
  have f4 := f3.tr f4
  obtain ⟨M5, e5, t5, f5⟩ := r_sign t4 (by simp only [List.length_append, List.length_cons, List.length_nil]; omega) 42
  have f5 := f4.tr f5
  obtain ⟨M6, e6, t6, f6⟩ := r_num t5 (v := A (108 + 7 * k + 3)) b3.1 (by omega) (by simp only [List.length_append, List.length_cons, List.length_nil]; omega)
  have f6 := f5.tr f6
  obtain ⟨M7, e7, t7, f7⟩ := r_sign t6 (by simp only [List.length_append, List.length_cons, List.length_nil]; omega) 32
  have f7 := f6.tr f7
  have hfin : ∀ M2 : Mem, Fs (mu (mT M 0) 20 0 15 (iZ 0)) M2 → M2 20 0 9 = iZ 0 ∧ ∀ d i l, d ≠ 29 → ¬ (d = 20 ∧ (l = 9 ∨ l = 15)) → M2 d i l = M d i l := fun M2 hf => ⟨by
    rw [hf 20 0 9 (by omega) (by omega), mu_miss _ _ (by omega)]; exact mT_9 _ _, fun d i l hd hl => by
    rw [hf d i l hd (by omega), mu_miss _ _ (by omega)]; exact mu_miss _ _ (by omega)⟩
  unfold f_X8_formatParcel
  rw [nm_s, mu0_mT, bdq h1, if_neg hn, bdq h1, pc_s, nm_s, bdq (show f_X8_sign (mu (mT M 0) 20 0 15 (0 : Int32)) (35 : Int32) = some M1 from e1), bdq e2, show (32 : Int32) = iZ 32 from rfl, bdq e3, zc_108, zc_7, z_mul, z_add, zc_2, z_add, if_pos (vz (by omega) (by omega)), rd (fs21 f3 hA0) (by omega) (by omega), bdq e4, show (42 : Int32) = iZ 42 from rfl, bdq e5, zc_3, z_add, if_pos (vz (by omega) (by omega)), rd (fs21 f5 hA0) (by omega) (by omega), bdq e6, bdq e7, zc_4, z_add, if_pos (vz (by omega) (by omega)), rd (fs21 f7 hA0) (by omega) (by omega)]
  unfold f_X8_formatParcel_157 txP
  by_cases c : A (108 + 7 * k + 4) = -1
  · have b5 := b5 c
    have b6 := b6 c
    have d5 := d5 c
    clear b4 d4
    obtain ⟨M8, e8, t8, f8⟩ := r_sign t7 (by simp only [List.length_append, List.length_cons, List.length_nil]; omega) 126
    have f8 := f7.tr f8
    obtain ⟨M9, e9, t9, f9⟩ := r_num t8 (v := A (108 + 7 * k + 5)) b5.1 (by omega) (by simp only [List.length_append, List.length_cons, List.length_nil]; omega)
    have f9 := f8.tr f9
    obtain ⟨Ma, ea, ta, fa⟩ := r_sign t9 (by simp only [List.length_append, List.length_cons, List.length_nil]; omega) 58
    have fa := f9.tr fa
    obtain ⟨Mb, eb, tb, fb⟩ := r_num ta (v := A (108 + 7 * k + 6)) b6.1 b6.2 (by simp only [List.length_append, List.length_cons, List.length_nil]; omega)
    have fb := fa.tr fb
    obtain ⟨Mc, ec, tc, fc⟩ := r_sign tb (by simp only [List.length_append, List.length_cons, List.length_nil]; omega) 32
    have fc := fb.tr fc
    obtain ⟨Md, ed, td, fd⟩ := r_sign tc (by simp only [List.length_append, List.length_cons, List.length_nil]; omega) 62
    have fd := fc.tr fd
    obtain ⟨Me, ee, te, fe⟩ := r_num td (v := A (108 + 7 * k + 1)) b1.1 (by omega) (by simp only [List.length_append, List.length_cons, List.length_nil]; omega)
    have fe := fd.tr fe
    have hte : TR Me ([35] ++ dg (A (108 + 7 * k)) ++ [32] ++ dg (A (108 + 7 * k + 2)) ++ [42] ++ dg (A (108 + 7 * k + 3)) ++ ([32, 126] ++ dg (A (108 + 7 * k + 5)) ++ [58] ++ dg (A (108 + 7 * k + 6))) ++ [32, 62] ++ dg (A (108 + 7 * k + 1))) := by
      simp only [List.append_assoc, List.nil_append, List.cons_append] at te ⊢
      exact te
    rw [if_pos c]
    refine ⟨Me, ?_, hte, (hfin Me fe).1, (hfin Me fe).2⟩
    rw [c, if_pos (by decide), show (126 : Int32) = iZ 126 from rfl, bdq e8, zc_5, z_add, if_pos (vz (by omega) (by omega)), rd (fs21 f8 hA0) (by omega) (by omega), bdq e9, show (58 : Int32) = iZ 58 from rfl, bdq ea, zc_6, z_add, if_pos (vz (by omega) (by omega)), rd (fs21 fa hA0) (by omega) (by omega), bdq eb, show (32 : Int32) = iZ 32 from rfl, bdq ec, show (62 : Int32) = iZ 62 from rfl, bdq ed, zc_1, z_add, if_pos (vz (by omega) (by omega)), rd (fs21 fd hA0) (by omega) (by omega), bdq ee, hte.1]
  · have b4 := b4 c
    have d4 := d4 c
    clear b5 b6 d5 d6
    obtain ⟨M8, e8, t8, f8⟩ := r_sign t7 (by simp only [List.length_append, List.length_cons, List.length_nil]; omega) 64
    have f8 := f7.tr f8
    obtain ⟨M9, e9, t9, f9⟩ := r_num t8 (v := A (108 + 7 * k + 4)) b4.1 (by omega) (by simp only [List.length_append, List.length_cons, List.length_nil]; omega)
    have f9 := f8.tr f9
    obtain ⟨Mc, ec, tc, fc⟩ := r_sign t9 (by simp only [List.length_append, List.length_cons, List.length_nil]; omega) 32
    have fc := f9.tr fc
    obtain ⟨Md, ed, td, fd⟩ := r_sign tc (by simp only [List.length_append, List.length_cons, List.length_nil]; omega) 62
    have fd := fc.tr fd
    obtain ⟨Me, ee, te, fe⟩ := r_num td (v := A (108 + 7 * k + 1)) b1.1 (by omega) (by simp only [List.length_append, List.length_cons, List.length_nil]; omega)
    have fe := fd.tr fe
    have hte : TR Me ([35] ++ dg (A (108 + 7 * k)) ++ [32] ++ dg (A (108 + 7 * k + 2)) ++ [42] ++ dg (A (108 + 7 * k + 3)) ++ ([32, 64] ++ dg (A (108 + 7 * k + 4))) ++ [32, 62] ++ dg (A (108 + 7 * k + 1))) := by
      simp only [List.append_assoc, List.nil_append, List.cons_append] at te ⊢
      exact te
    rw [if_neg c]
    refine ⟨Me, ?_, hte, (hfin Me fe).1, (hfin Me fe).2⟩
    rw [if_neg (show ¬ (iZ (A (108 + 7 * k + 4)) = (-1 : Int32)) by rw [zc_m1]; exact ne_z (by omega) (by omega) c), show (64 : Int32) = iZ 64 from rfl, bdq e8, rd (fs21 f8 hA0) (by omega) (by omega), bdq e9, show (32 : Int32) = iZ 32 from rfl, bdq ec, show (62 : Int32) = iZ 62 from rfl, bdq ed, zc_1, z_add, if_pos (vz (by omega) (by omega)), rd (fs21 fd hA0) (by omega) (by omega), bdq ee, hte.1]
