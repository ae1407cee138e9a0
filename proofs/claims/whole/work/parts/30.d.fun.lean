/-! The line's calls. -/
theorem TC.ln {M : Mem} {tx : List Int} {q : Int} (h : TC M tx q) (h2 : TR M tx) (hP : Pt tx) (hl : tx.length ≤ 34) : Ln M tx.length q (fun j => tx.getD j.toNat 0) := by
  obtain ⟨a1, a2, a3, a4, a5⟩ := h
  refine ⟨by omega, a4, by omega, a2, a1, h2.1, a3, fun j j0 j1 => ?_⟩
  have hj : j.toNat < tx.length := by omega
  have := hP.at hj
  exact ⟨this.1, this.2, a5 _ hj, h2.2 _ hj⟩
theorem TC.ft {M M2 : Mem} {tx : List Int} {q : Int} (h : TC M tx q) (hF : ∀ a i k, a = 19 ∨ a = 34 → M2 a i k = M a i k) : TC M2 tx q := by
  obtain ⟨a1, a2, a3, a4, a5⟩ := h
  exact ⟨by rw [hF 19 0 _ (by omega)]; exact a1, a2, by rw [hF 34 0 _ (by omega)]; exact a3, a4, fun j hj => by rw [hF 34 0 _ (by omega)]; exact a5 j hj⟩
theorem s_set {M : Mem} {l q : Int} {T : Int → Int} (hT : Ln M l q T) : ∃ M2, f_J4_setLength_d00df M (iZ 0) = some M2 ∧ TC M2 [] q ∧ Ft M M2 := by
  obtain ⟨h1, h2, h3, h4, h5, h6, h7, h8⟩ := hT
  have he : f_J5_ensureCapacityInternal_d00df M (iZ 0) = some M := by
    unfold f_J5_ensureCapacityInternal_d00df
    rw [h7, shr_0]
    obtain rfl | rfl := h4
    · rw [cap_16, z_sub, if_pos (by decide)]
    · rw [cap_34, z_sub, if_pos (by decide)]
  unfold f_J4_setLength_d00df f_J5_setLength_d00df f_J5_setLength_d00df_76
  rw [if_pos (by decide : 0 ≤ iZ 0), bdq he, h5, if_pos (show iZ 0 ≤ iZ l by rw [z_le (by omega) (by omega) (by omega) (by omega)]; exact h1)]
  by_cases e : l ≤ 0
  · rw [if_pos (show iZ l ≤ iZ 0 by rw [z_le (by omega) (by omega) (by omega) (by omega)]; exact e), nm_s, bd_s]
    refine ⟨_, rfl, ⟨mu_hit _ _ _ _ _, h4, by rw [mu_miss _ _ (by omega)]; exact h7, by show (0 : Int) ≤ q; omega, fun j hj => absurd hj (Nat.not_lt_zero j)⟩, fun a i k ha hb => mu_miss _ _ (by omega)⟩
  · rw [if_neg (show ¬ (iZ l ≤ iZ 0) by rw [z_le (by omega) (by omega) (by omega) (by omega)]; exact e), nm_s, nm_s, bd_s]
    refine ⟨_, rfl, ⟨mu_hit _ _ _ _ _, h4, by rw [mu_miss _ _ (by omega), mu_miss _ _ (by omega)]; exact h7, by show (0 : Int) ≤ q; omega, fun j hj => absurd hj (Nat.not_lt_zero j)⟩, fun a i k ha hb => by rw [mu_miss _ _ (by omega), mu_miss _ _ (by omega)]⟩
theorem s_len {M : Mem} {tx : List Int} {q : Int} (h : TC M tx q) : f_J4_length_8abf5 M = some (iZ tx.length) := by
  unfold f_J4_length_8abf5 f_J5_length_8abf5
  rw [bd_s, h.1]
/-- a parcel's text -/
def txP (A : Int → Int) (k : Int) : List Int := [35] ++ dg (A (108 + 7 * k)) ++ [32] ++ dg (A (108 + 7 * k + 2)) ++ [42] ++ dg (A (108 + 7 * k + 3)) ++ (if A (108 + 7 * k + 4) = -1 then [32, 126] ++ dg (A (108 + 7 * k + 5)) ++ [58] ++ dg (A (108 + 7 * k + 6)) else [32, 64] ++ dg (A (108 + 7 * k + 4))) ++ [32, 62] ++ dg (A (108 + 7 * k + 1))
theorem cst_11 : cst 11 = [32, 126] := by decide +kernel
theorem cst_12 : cst 12 = [32, 64] := by decide +kernel
theorem cst_13 : cst 13 = [32, 62] := by decide +kernel
theorem cst_14 : cst 14 = [41, 32] := by decide +kernel
theorem cst_15 : cst 15 = [104, 47] := by decide +kernel
theorem cst_16 : cst 16 = [32, 120] := by decide +kernel
theorem cst_17 : cst 17 = [32, 119] := by decide +kernel
theorem dg_le {v : Int} : (dg v).length ≤ 6 ∧ (v < 10 → (dg v).length = 1) ∧ (v < 100 → (dg v).length ≤ 2) ∧ (v < 10000 → (dg v).length ≤ 4) := by
  have := dg_ex v
  omega
theorem ft6 {M M2 : Mem} (h : Ft M M2) (i k : Nat) : M2 6 i k = M 6 i k := h 6 i k (by omega) (by omega)
theorem ft4 {M M2 : Mem} (h : Ft M M2) (i k : Nat) : M2 4 i k = M 4 i k := h 4 i k (by omega) (by omega)
set_option maxHeartbeats 4000000 in
theorem s_parcel {p h : Int} {M : Mem} {A : Int → Int} (hO : Ok p h A) (hm : Rm p (h + 120)) (hR : Rw M 0) (hC : Cl M 0 A) {k : Int} (k0 : 0 ≤ k) (k1 : k < A 2) {q : Int} (hT : TC M [] q) : ∃ M2 q2, f_X3_writeTo M (ix (M 5 0 k.toNat)) = some M2 ∧ TC M2 (txP A k) q2 ∧ Ft M M2 := by
  have hk := pcl_of hO k0 k1
  have hsa := sAt_in hO k0 k1
  have o2 := hO.2.1
  have o4 := hO.2.2.2.1
  have o8 : A 3 ≤ p := hO.2.2.2.2.2.2.2.1
  obtain ⟨c0, c1, c2, c3, c4, c5, c6⟩ := cl_of hC k0 k1
  have hu := g_under hO hm.lo hC k0 k1
  have hun : ∀ M1 : Mem, M1 6 (ix (M 5 0 k.toNat)) 5 = M 6 (ix (M 5 0 k.toNat)) 5 → f_X3_isUnderWay M1 (ix (M 5 0 k.toNat)) = f_X3_isUnderWay M (ix (M 5 0 k.toNat)) := fun M1 e => by unfold f_X3_isUnderWay; rw [e]
  unfold pcl at hk
  unfold Rm at hm
  have b0 : 0 ≤ A (108 + 7 * k) ∧ A (108 + 7 * k) < 10000 := by omega
  have b1 : 0 ≤ A (108 + 7 * k + 1) ∧ A (108 + 7 * k + 1) < 10 := by omega
  have b2 : 0 ≤ A (108 + 7 * k + 2) ∧ A (108 + 7 * k + 2) < 10 := by omega
  have b3 : 0 ≤ A (108 + 7 * k + 3) ∧ A (108 + 7 * k + 3) < 100 := by omega
  have b4 : A (108 + 7 * k + 4) ≠ -1 → 0 ≤ A (108 + 7 * k + 4) ∧ A (108 + 7 * k + 4) < 10 := by omega
  have b5 : A (108 + 7 * k + 4) = -1 → 0 ≤ A (108 + 7 * k + 5) ∧ A (108 + 7 * k + 5) < 100 := by omega
  have b6 : A (108 + 7 * k + 4) = -1 → 0 ≤ A (108 + 7 * k + 6) ∧ A (108 + 7 * k + 6) < 1000000 := by omega
  have d0 := dg_le.2.2.2 b0.2
  have d1 := dg_le.2.1 b1.2
  have d2 := dg_le.2.1 b2.2
  have d3 := dg_le.2.2.1 b3.2
  have d4 := fun e => dg_le.2.1 (b4 e).2
  have d5 := fun e => dg_le.2.2.1 (b5 e).2
  have d6 := (dg_le (v := A (108 + 7 * k + 6))).1
  clear hk hm hO hR hsa o2 o4 o8 hC
  unfold f_X3_writeTo
  generalize ix (M 5 0 k.toNat) = x at *
  obtain ⟨M1, q1, e1, t1, f1⟩ := sb_char hT (c := 35) (by show (0 : Int) + 1 ≤ 34; omega) (by omega) (by omega)
  obtain ⟨M2, q2, e2, t2, f2⟩ := sb_int t1 (v := A (108 + 7 * k)) b0.1 (by omega) (by simp only [List.length_append, List.length_cons, List.length_nil]; omega)
  have f2 := f1.tr f2
  obtain ⟨M3, q3, e3, t3, f3⟩ := sb_char t2 (c := 32) (by simp only [List.length_append, List.length_cons, List.length_nil]; omega) (by omega) (by omega)
  have f3 := f2.tr f3
  obtain ⟨M4, q4, e4, t4, f4⟩ := sb_int t3 (v := A (108 + 7 * k + 2)) b2.1 (by omega) (by simp only [List.length_append, List.length_cons, List.length_nil]; omega)
  have f4 := f3.tr f4
  obtain ⟨M5, q5, e5, t5, f5⟩ := sb_char t4 (c := 42) (by simp only [List.length_append, List.length_cons, List.length_nil]; omega) (by omega) (by omega)
  have f5 := f4.tr f5
  obtain ⟨M6, q6, e6, t6, f6⟩ := sb_int t5 (v := A (108 + 7 * k + 3)) b3.1 (by omega) (by simp only [List.length_append, List.length_cons, List.length_nil]; omega)
  have f6 := f5.tr f6
  rw [show (35 : Int32) = iZ 35 from rfl, bdq e1, ft6 f1, c0, bdq e2, show (32 : Int32) = iZ 32 from rfl, bdq e3, ft6 f3, c1, bdq e4, show (42 : Int32) = iZ 42 from rfl, bdq e5, ft6 f5, c2, bdq e6, hun M6 (ft6 f6 x 5), hu, bd_s]
  unfold f_X3_writeTo_88 txP
  by_cases c : A (108 + 7 * k + 4) = -1
  · have b5 := b5 c
    have b6 := b6 c
    have d5 := d5 c
    clear b4 d4
    rw [if_pos c, if_pos c, if_neg n10]
    obtain ⟨M7, q7, e7, t7, f7⟩ := sb_str (i := 11) (by omega) t6 (by rw [cst_11]; simp only [List.length_append, List.length_cons, List.length_nil]; omega)
    have f7 := f6.tr f7
    rw [cst_11] at t7
    obtain ⟨M8, q8, e8, t8, f8⟩ := sb_int t7 (v := A (108 + 7 * k + 5)) b5.1 (by omega) (by simp only [List.length_append, List.length_cons, List.length_nil]; omega)
    have f8 := f7.tr f8
    obtain ⟨M9, q9, e9, t9, f9⟩ := sb_char t8 (c := 58) (by simp only [List.length_append, List.length_cons, List.length_nil]; omega) (by omega) (by omega)
    have f9 := f8.tr f9
    obtain ⟨Ma, qa, ea, ta, fa⟩ := sb_int t9 (v := A (108 + 7 * k + 6)) b6.1 b6.2 (by simp only [List.length_append, List.length_cons, List.length_nil]; omega)
    have fa := f9.tr fa
    obtain ⟨Mb, qb, eb, tb, fb⟩ := sb_str (i := 13) (by omega) ta (by rw [cst_13]; simp only [List.length_append, List.length_cons, List.length_nil]; omega)
    have fb := fa.tr fb
    rw [cst_13] at tb
    obtain ⟨Mc, qc, ec, tc, fc⟩ := sb_int tb (v := A (108 + 7 * k + 1)) b1.1 (by omega) (by simp only [List.length_append, List.length_cons, List.length_nil]; omega)
    have fc := fb.tr fc
    refine ⟨Mc, qc, ?_, ?_, fc⟩
    · rw [bdq e7, ft6 f7, c5, bdq e8, show (58 : Int32) = iZ 58 from rfl, bdq e9, ft6 f9, c6 c, bdq ea, bdq eb, ft6 fb, c3, bdq ec]
    · simp only [List.append_assoc, List.nil_append] at tc ⊢
      exact tc
  · have b4 := b4 c
    have d4 := d4 c
    clear b5 b6 d5 d6
    rw [if_neg c, if_neg c, if_pos (by decide)]
    unfold sAt at c4
    rw [if_neg c] at c4
    obtain ⟨M7, q7, e7, t7, f7⟩ := sb_str (i := 12) (by omega) t6 (by rw [cst_12]; simp only [List.length_append, List.length_cons, List.length_nil]; omega)
    have f7 := f6.tr f7
    rw [cst_12] at t7
    obtain ⟨M8, q8, e8, t8, f8⟩ := sb_int t7 (v := A (108 + 7 * k + 4)) b4.1 (by omega) (by simp only [List.length_append, List.length_cons, List.length_nil]; omega)
    have f8 := f7.tr f8
    obtain ⟨Mb, qb, eb, tb, fb⟩ := sb_str (i := 13) (by omega) t8 (by rw [cst_13]; simp only [List.length_append, List.length_cons, List.length_nil]; omega)
    have fb := f8.tr fb
    rw [cst_13] at tb
    obtain ⟨Mc, qc, ec, tc, fc⟩ := sb_int tb (v := A (108 + 7 * k + 1)) b1.1 (by omega) (by simp only [List.length_append, List.length_cons, List.length_nil]; omega)
    have fc := fb.tr fc
    refine ⟨Mc, qc, ?_, ?_, fc⟩
    · rw [bdq e7, ft6 f7, c4, bdq e8, bdq eb, ft6 fb, c3, bdq ec]
    · simp only [List.append_assoc, List.nil_append] at tc ⊢
      exact tc
