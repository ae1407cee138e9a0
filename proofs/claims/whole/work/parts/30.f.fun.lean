set_option maxHeartbeats 4000000 in
theorem r_link {p h : Int} {M : Mem} {A : Int → Int} (hO : Ok p h A) (hm : Rm p h) (hA : M 21 0 = rz A) {k : Int} (k0 : 0 ≤ k) (k1 : k < A 1) : ∃ M2, f_X8_formatLink M (iZ k) = some (iZ (txL A k).length, M2) ∧ TR M2 (txL A k) ∧ M2 20 0 9 = iZ 0 ∧ ∀ d i l, d ≠ 29 → ¬ (d = 20 ∧ (l = 9 ∨ l = 15)) → M2 d i l = M d i l := by
  have hk := lnk_of hO k0 k1
  have o2 := hO.2.1
  have o4 := hO.2.2.2.1
  have s1 := sLoad_nn hO k
  have s2 := hO.2.2.2.2.2.2.2.2.2.2.2.2.2.2 k k0 k1
  have h1 := g_X8_isLink hO (mT21 0 hA) (a := k) (by omega)
  rw [bI_t ⟨k0, k1⟩] at h1
  have hld : ∀ M1 : Mem, M1 21 0 = rz A → f_X8_load M1 (iZ k) = some (iZ (sLoad A k)) := fun M1 e => g_X8_load hO hm e k0 (by omega)
  unfold lnk at hk
  have b0 : 0 ≤ A (8 + 5 * k) ∧ A (8 + 5 * k) < 10 := by omega
  have b1 : 0 ≤ A (8 + 5 * k + 1) ∧ A (8 + 5 * k + 1) < 10 := by omega
  have b2 : 0 ≤ A (8 + 5 * k + 2) ∧ A (8 + 5 * k + 2) < 10 := by omega
  have b3 : 0 ≤ A (8 + 5 * k + 3) ∧ A (8 + 5 * k + 3) < 10 := by omega
  have b4 : A (8 + 5 * k + 4) = 0 ∨ A (8 + 5 * k + 4) = 1 := by omega
  have b5 : sLoad A k < 100 := by omega
  have b6 : k < 20 := by omega
  have d0 := dg_le.2.1 b0.2
  have d1 := dg_le.2.1 b1.2
  have d2 := dg_le.2.1 b2.2
  have d3 := dg_le.2.1 b3.2
  have d5 := dg_le.2.2.1 b5
  have d6 := dg_le.2.2.1 (by omega : k < 100)
  clear hk hO hm o2 o4 s2
  have hA0 : mu (mT M 0) 20 0 15 (iZ 0) 21 0 = rz A := by rw [mu_ne _ _ _ (by omega)]; exact mT21 0 hA
  obtain ⟨Mz, ez, tz, fz⟩ := r_num (tr0 (mT M 0)) (v := k) k0 (by omega) (by simp only [List.length_append, List.length_cons, List.length_nil]; omega)
  rw [List.nil_append] at tz
  obtain ⟨M1, e1, t1, f1⟩ := r_sign tz (by omega) 40
  have f1 := fz.tr f1
  obtain ⟨M2, e2, t2, f2⟩ := r_num t1 (v := A (8 + 5 * k)) b0.1 (by omega) (by simp only [List.length_append, List.length_cons, List.length_nil]; omega)
  have f2 := f1.tr f2
  obtain ⟨M3, e3, t3, f3⟩ := r_sign t2 (by simp only [List.length_append, List.length_cons, List.length_nil]; omega) 45
  have f3 := f2.tr f3
  obtain ⟨M4, e4, t4, f4⟩ := r_num t3 (v := A (8 + 5 * k + 1)) b1.1 (by omega) (by simp only [List.length_append, List.length_cons, List.length_nil]; omega)
  have f4 := f3.tr f4
  obtain ⟨M5, e5, t5, f5⟩ := r_sign t4 (by simp only [List.length_append, List.length_cons, List.length_nil]; omega) 41
  have f5 := f4.tr f5
  obtain ⟨M5b, e5b, t5b, f5b⟩ := r_sign t5 (by simp only [List.length_append, List.length_cons, List.length_nil]; omega) 32
  have f5b := f5.tr f5b
  obtain ⟨M6, e6, t6, f6⟩ := r_num t5b (v := A (8 + 5 * k + 2)) b2.1 (by omega) (by simp only [List.length_append, List.length_cons, List.length_nil]; omega)
  have f6 := f5b.tr f6
  obtain ⟨M7, e7, t7, f7⟩ := r_sign t6 (by simp only [List.length_append, List.length_cons, List.length_nil]; omega) 104
  have f7 := f6.tr f7
  obtain ⟨M7b, e7b, t7b, f7b⟩ := r_sign t7 (by simp only [List.length_append, List.length_cons, List.length_nil]; omega) 47
  have f7b := f7.tr f7b
  obtain ⟨M8, e8, t8, f8⟩ := r_num t7b (v := A (8 + 5 * k + 3)) b3.1 (by omega) (by simp only [List.length_append, List.length_cons, List.length_nil]; omega)
  have f8 := f7b.tr f8
  have t8 : TR M8 (dg k ++ [40] ++ dg (A (8 + 5 * k)) ++ [45] ++ dg (A (8 + 5 * k + 1)) ++ [41, 32] ++ dg (A (8 + 5 * k + 2)) ++ [104, 47] ++ dg (A (8 + 5 * k + 3))) := by
    simp only [List.append_assoc, List.nil_append, List.cons_append] at t8 ⊢
    exact t8
  have hl8 : (dg k ++ [40] ++ dg (A (8 + 5 * k)) ++ [45] ++ dg (A (8 + 5 * k + 1)) ++ [41, 32] ++ dg (A (8 + 5 * k + 2)) ++ [104, 47] ++ dg (A (8 + 5 * k + 3))).length ≤ 20 := by
    simp only [List.length_append, List.length_cons, List.length_nil]; omega
  have hfin : ∀ M2 : Mem, Fs (mu (mT M 0) 20 0 15 (iZ 0)) M2 → M2 20 0 9 = iZ 0 ∧ ∀ d i l, d ≠ 29 → ¬ (d = 20 ∧ (l = 9 ∨ l = 15)) → M2 d i l = M d i l := fun M2 hf => ⟨by
    rw [hf 20 0 9 (by omega) (by omega), mu_miss _ _ (by omega)]; exact mT_9 _ _, fun d i l hd hl => by
    rw [hf d i l hd (by omega), mu_miss _ _ (by omega)]; exact mu_miss _ _ (by omega)⟩
  have hend : ∀ (M9 : Mem) (tx : List Int), TR M9 tx → tx.length ≤ 22 → Fs (mu (mT M 0) 20 0 15 (iZ 0)) M9 → ∃ Ma, f_X8_formatLink_140 M9 (iZ k) = some (iZ (tx ++ (if 0 < sLoad A k then [32, 119] ++ dg (sLoad A k) else [])).length, Ma) ∧ TR Ma (tx ++ (if 0 < sLoad A k then [32, 119] ++ dg (sLoad A k) else [])) ∧ Fs (mu (mT M 0) 20 0 15 (iZ 0)) Ma := fun M9 tx t9 hl f9 => by
    unfold f_X8_formatLink_140 f_X8_formatLink_169
    rw [bdq (hld M9 (fs21 f9 hA0))]
    by_cases c : 0 < sLoad A k
    · rw [if_pos c, if_neg (show ¬ (iZ (sLoad A k) ≤ 0) by rw [zc_0, z_le (by omega) (by omega) (by omega) (by omega)]; omega)]
      obtain ⟨Ma, ea, ta, fa⟩ := r_sign t9 (by omega) 32
      have fa := f9.tr fa
      obtain ⟨Mb, eb, tb, fb⟩ := r_sign ta (by simp only [List.length_append, List.length_cons, List.length_nil]; omega) 119
      have fb := fa.tr fb
      obtain ⟨Mc, ec, tc, fc⟩ := r_num tb (v := sLoad A k) s1.1 (by omega) (by simp only [List.length_append, List.length_cons, List.length_nil]; omega)
      have fc := fb.tr fc
      have htc : TR Mc (tx ++ ([32, 119] ++ dg (sLoad A k))) := by
        simp only [List.append_assoc, List.nil_append, List.cons_append] at tc ⊢
        exact tc
      refine ⟨Mc, ?_, htc, fc⟩
      rw [show (32 : Int32) = iZ 32 from rfl, bdq ea, show (119 : Int32) = iZ 119 from rfl, bdq eb, bdq (hld Mb (fs21 fb hA0)), bdq ec, htc.1]
    · rw [if_neg c, if_pos (show iZ (sLoad A k) ≤ 0 by rw [zc_0, z_le (by omega) (by omega) (by omega) (by omega)]; omega), List.append_nil]
      exact ⟨M9, by rw [t9.1], t9, f9⟩
  unfold f_X8_formatLink
  rw [nm_s, mu0_mT, bdq h1, if_neg n10, lk_s, nm_s, bdq (show f_X8_writesNumber (mu (mT M 0) 20 0 15 (0 : Int32)) (iZ k) = some Mz from ez), show (40 : Int32) = iZ 40 from rfl, bdq e1, zc_8, zc_5, z_mul, z_add, if_pos (vz (by omega) (by omega)), rd (fs21 f1 hA0) (by omega) (by omega), bdq e2, show (45 : Int32) = iZ 45 from rfl, bdq e3, zc_1, z_add, if_pos (vz (by omega) (by omega)), rd (fs21 f3 hA0) (by omega) (by omega), bdq e4, show (41 : Int32) = iZ 41 from rfl, bdq e5, show (32 : Int32) = iZ 32 from rfl, bdq e5b, zc_2, z_add, if_pos (vz (by omega) (by omega)), rd (fs21 f5b hA0) (by omega) (by omega), bdq e6, show (104 : Int32) = iZ 104 from rfl, bdq e7, show (47 : Int32) = iZ 47 from rfl, bdq e7b, zc_3, z_add, if_pos (vz (by omega) (by omega)), rd (fs21 f7b hA0) (by omega) (by omega), bdq e8, zc_4, z_add, if_pos (vz (by omega) (by omega)), rd (fs21 f8 hA0) (by omega) (by omega)]
  unfold txL
  obtain b4 | b4 := b4
  · obtain ⟨Ma, ea, ta, fa⟩ := hend M8 _ t8 (by omega) f8
    rw [if_pos b4, List.append_nil]
    refine ⟨Ma, ?_, ta, (hfin Ma fa).1, (hfin Ma fa).2⟩
    rw [b4, if_neg (by decide), ea]
  · obtain ⟨M9, e9, t9, f9⟩ := r_sign t8 (by omega) 32
    have f9 := f8.tr f9
    obtain ⟨Mb, eb, tb, fb⟩ := r_sign t9 (by rw [List.length_append, List.length_singleton]; omega) 120
    have fb := f9.tr fb
    have htb : TR Mb (dg k ++ [40] ++ dg (A (8 + 5 * k)) ++ [45] ++ dg (A (8 + 5 * k + 1)) ++ [41, 32] ++ dg (A (8 + 5 * k + 2)) ++ [104, 47] ++ dg (A (8 + 5 * k + 3)) ++ [32, 120]) := by
      simp only [List.append_assoc, List.nil_append, List.cons_append] at tb ⊢
      exact tb
    obtain ⟨Ma, ea, ta, fa⟩ := hend Mb _ htb (by rw [List.length_append]; show _ + 2 ≤ 22; omega) fb
    rw [if_neg (by omega : ¬ A (8 + 5 * k + 4) = 0)]
    refine ⟨Ma, ?_, ta, (hfin Ma fa).1, (hfin Ma fa).2⟩
    rw [b4, if_pos (by decide), bdq e9, show (120 : Int32) = iZ 120 from rfl, bdq eb, ea]
/-! both -/
theorem gd_text {n : Int} {M : Mem} (hR : Rl n M) {fL : Option (Int32 × Mem)} {fX : Mem → Option (Int32 × Mem)} {tx : List Int} {M1 : Mem} {q : Int} (h1 : fL = some (iZ 0, mu M1 33 0 0 (iZ tx.length))) (hT : TC M1 tx q) (hF : Ft M M1)
    (h2 : ∃ M2, fX (mu M1 33 0 0 (iZ tx.length)) = some (iZ tx.length, M2) ∧ TR M2 tx ∧ M2 20 0 9 = iZ 0 ∧ ∀ d i l, d ≠ 29 → ¬ (d = 20 ∧ (l = 9 ∨ l = 15)) → M2 d i l = mu M1 33 0 0 (iZ tx.length) d i l) (hP : Pt tx) (hl : tx.length ≤ 34) : Gd n fL fX := by
  obtain ⟨M2, h3, h4, h5, h6⟩ := h2
  obtain ⟨A, S, Bf, o, c, v, hK, hL, hr, hx⟩ := hR
  have w : ∀ d i l, d ≠ 19 → d ≠ 34 → d ≠ 29 → d ≠ 33 → ¬ (d = 20 ∧ (l = 9 ∨ l = 15)) → M2 d i l = M d i l := fun d i l a1 a2 a3 a4 a5 => by
    rw [h6 d i l a3 a5, mu_miss _ _ (by omega), hF d i l a1 a2]
  have hT2 : TC M2 tx q := hT.ft (fun d i l hd => by rw [h6 d i l (by omega) (by omega), mu_miss _ _ (by omega)])
  refine ⟨_, _, iZ tx.length, M2, h1, h3, h5, fun _ => by rw [h6 33 0 0 (by omega) (by omega)]; exact mu_hit _ _ _ _ _, A, S, Bf, o, c, v, hK.mono (by omega) (by omega), hL.of (fun d i l hd => w d i l (by omega) (by omega) (by omega) (by omega) (by omega)), hr.of (fun d i l hd => w d i l (by omega) (by omega) (by omega) (by omega) (by omega)), ?_⟩
  obtain ⟨⟨m, T, g1⟩, -, g3, g4, g5, g6⟩ := hx
  refine ⟨⟨m, T, g1.of (fun d i l hd => w d i l (by omega) (by omega) (by omega) (by omega) (by omega))⟩, ⟨_, q, _, hT2.ln h4 hP hl⟩, ?_, ?_, ?_, ?_⟩
  · rw [w 0 0 9 (by omega) (by omega) (by omega) (by omega) (by omega), w 20 0 7 (by omega) (by omega) (by omega) (by omega) (by omega)]; exact g3
  · rw [w 0 0 10 (by omega) (by omega) (by omega) (by omega) (by omega), w 20 0 8 (by omega) (by omega) (by omega) (by omega) (by omega)]; exact g4
  · rw [← g5]; funext l; exact w 30 0 l (by omega) (by omega) (by omega) (by omega) (by omega)
  · rw [← g6]; funext l; exact w 31 0 l (by omega) (by omega) (by omega) (by omega) (by omega)
theorem Rl.line {n : Int} {M : Mem} (hR : Rl n M) : ∃ l q T, Ln M l q T := by
  obtain ⟨A, S, Bf, o, c, v, hK, hL, hr, hx⟩ := hR
  exact hx.2.1
theorem txP_in {p h : Int} {A : Int → Int} (hO : Ok p h A) (hm : Rm p (h + 120)) {k : Int} (k0 : 0 ≤ k) (k1 : k < A 2) : Pt (txP A k) ∧ (txP A k).length ≤ 34 := by
  have hk := pcl_of hO k0 k1
  have o2 := hO.2.1
  have o4 := hO.2.2.2.1
  have o8 : A 3 ≤ p := hO.2.2.2.2.2.2.2.1
  unfold pcl at hk
  unfold Rm at hm
  have b0 : 0 ≤ A (108 + 7 * k) ∧ A (108 + 7 * k) < 10000 := by omega
  have b1 : 0 ≤ A (108 + 7 * k + 1) ∧ A (108 + 7 * k + 1) < 10 := by omega
  have b2 : 0 ≤ A (108 + 7 * k + 2) ∧ A (108 + 7 * k + 2) < 10 := by omega
  have b3 : 0 ≤ A (108 + 7 * k + 3) ∧ A (108 + 7 * k + 3) < 100 := by omega
  have b4 : A (108 + 7 * k + 4) ≠ -1 → 0 ≤ A (108 + 7 * k + 4) ∧ A (108 + 7 * k + 4) < 10 := by omega
  have b5 : A (108 + 7 * k + 4) = -1 → 0 ≤ A (108 + 7 * k + 5) ∧ A (108 + 7 * k + 5) < 100 := by omega
  have b6 : A (108 + 7 * k + 4) = -1 → 0 ≤ A (108 + 7 * k + 6) := by omega
  have d0 := dg_le.2.2.2 b0.2
  have d1 := dg_le.2.1 b1.2
  have d2 := dg_le.2.1 b2.2
  have d3 := dg_le.2.2.1 b3.2
  have d6 := (dg_le (v := A (108 + 7 * k + 6))).1
  clear hk hm hO
  have two : ∀ x y : Int, 32 ≤ x → x ≤ 126 → 32 ≤ y → y ≤ 126 → Pt [x, y] := fun x y x0 x1 y0 y1 c hc => by
    simp only [List.mem_cons, List.not_mem_nil, or_false] at hc
    omega
  unfold txP
  by_cases c : A (108 + 7 * k + 4) = -1
  · have d5 := dg_le.2.2.1 (b5 c).2
    rw [if_pos c]
    refine ⟨((((((((Pt_1 (by omega) (by omega)).app (Pt_dg b0.1)).app (Pt_1 (by omega) (by omega))).app (Pt_dg b2.1)).app (Pt_1 (by omega) (by omega))).app (Pt_dg b3.1)).app ((((two _ _ (by omega) (by omega) (by omega) (by omega)).app (Pt_dg (b5 c).1)).app (Pt_1 (by omega) (by omega))).app (Pt_dg (b6 c)))).app (two _ _ (by omega) (by omega) (by omega) (by omega))).app (Pt_dg b1.1), ?_⟩
    simp only [List.length_append, List.length_cons, List.length_nil]; omega
  · have d4 := dg_le.2.1 (b4 c).2
    rw [if_neg c]
    refine ⟨((((((((Pt_1 (by omega) (by omega)).app (Pt_dg b0.1)).app (Pt_1 (by omega) (by omega))).app (Pt_dg b2.1)).app (Pt_1 (by omega) (by omega))).app (Pt_dg b3.1)).app ((two _ _ (by omega) (by omega) (by omega) (by omega)).app (Pt_dg (b4 c).1))).app (two _ _ (by omega) (by omega) (by omega) (by omega))).app (Pt_dg b1.1), ?_⟩
    simp only [List.length_append, List.length_cons, List.length_nil]; omega
theorem txL_in {p h : Int} {A : Int → Int} (hO : Ok p h A) {k : Int} (k0 : 0 ≤ k) (k1 : k < A 1) : Pt (txL A k) ∧ (txL A k).length ≤ 34 := by
  have hk := lnk_of hO k0 k1
  have o2 := hO.2.1
  have o4 := hO.2.2.2.1
  have s1 := sLoad_nn hO k
  have s2 := hO.2.2.2.2.2.2.2.2.2.2.2.2.2.2 k k0 k1
  unfold lnk at hk
  have b0 : 0 ≤ A (8 + 5 * k) ∧ A (8 + 5 * k) < 10 := by omega
  have b1 : 0 ≤ A (8 + 5 * k + 1) ∧ A (8 + 5 * k + 1) < 10 := by omega
  have b2 : 0 ≤ A (8 + 5 * k + 2) ∧ A (8 + 5 * k + 2) < 10 := by omega
  have b3 : 0 ≤ A (8 + 5 * k + 3) ∧ A (8 + 5 * k + 3) < 10 := by omega
  have d0 := dg_le.2.1 b0.2
  have d1 := dg_le.2.1 b1.2
  have d2 := dg_le.2.1 b2.2
  have d3 := dg_le.2.1 b3.2
  have d5 := dg_le.2.2.1 (by omega : sLoad A k < 100)
  have d6 := dg_le.2.2.1 (by omega : k < 100)
  clear hk hO
  have two : ∀ x y : Int, 32 ≤ x → x ≤ 126 → 32 ≤ y → y ≤ 126 → Pt [x, y] := fun x y x0 x1 y0 y1 c hc => by
    simp only [List.mem_cons, List.not_mem_nil, or_false] at hc
    omega
  have nil : Pt [] := fun c hc => absurd hc List.not_mem_nil
  have hx : Pt (if A (8 + 5 * k + 4) = 0 then [] else [32, 120]) ∧ (if A (8 + 5 * k + 4) = 0 then [] else [(32 : Int), 120]).length ≤ 2 := by
    split
    · exact ⟨nil, by decide⟩
    · exact ⟨two _ _ (by omega) (by omega) (by omega) (by omega), by decide⟩
  have hw : Pt (if 0 < sLoad A k then [32, 119] ++ dg (sLoad A k) else []) ∧ (if 0 < sLoad A k then [32, 119] ++ dg (sLoad A k) else []).length ≤ 4 := by
    split
    · exact ⟨(two _ _ (by omega) (by omega) (by omega) (by omega)).app (Pt_dg s1.1), by rw [List.length_append]; show 2 + _ ≤ 4; omega⟩
    · exact ⟨nil, by decide⟩
  unfold txL
  refine ⟨((((((((((Pt_dg k0).app (Pt_1 (by omega) (by omega))).app (Pt_dg b0.1)).app (Pt_1 (by omega) (by omega))).app (Pt_dg b1.1)).app (two _ _ (by omega) (by omega) (by omega) (by omega))).app (Pt_dg b2.1)).app (two _ _ (by omega) (by omega) (by omega) (by omega))).app (Pt_dg b3.1)).app hx.1).app hw.1, ?_⟩
  rw [List.length_append, List.length_append]
  simp only [List.length_append, List.length_cons, List.length_nil]
  have h1 := hx.2
  have h2 := hw.2
  omega
theorem q_formatParcel {n : Int} {M : Mem} (n0 : 0 ≤ n) (n1 : n ≤ 512) (hR : Rl n M) (x : Int32) : Gd n (f_L_formatParcel M x) (fun M1 => f_X8_formatParcel M1 x) := by
  obtain ⟨a, rfl, ha⟩ := z_mk x
  obtain ⟨A, p, h, hO, hm, hC, hW, hA⟩ := hR.view n0 n1
  obtain ⟨l, q, T, hT⟩ := hR.line
  have o6 := hO.2.2.2.2.2.1
  have hp := sPos_in hO a
  have e1 := g_exParcel hO hm.lo hW hC ha
  by_cases e : sPos A a = -1
  · rw [if_pos e] at e1
    refine gd_no hR (M1 := M) (e := 1) (by omega) (by omega) ?_ (QC.rfl' M) ⟨iZ (-1), mT (mT M 0) 1, ?_, mT_9 _ _, (QR.mT _ _).tr (QR.mT _ _)⟩
    · unfold f_L_formatParcel f_X7_formatParcel
      rw [e1, bx_r, bxh_r]; rfl
    · show f_X8_formatParcel _ _ = _
      unfold f_X8_formatParcel
      rw [nm_s, mu0_mT, bdq (g_X8_find hO hm.lo (mT21 0 hA) ha), e, if_pos (by decide), zc_1, mT_s, bd2_s]
  · rw [if_neg e] at e1
    have k0 : 0 ≤ sPos A a := by omega
    have k1 : sPos A a < A 2 := by omega
    have hrw := hW.1 (sPos A a) k0 (by omega)
    obtain ⟨M1, s1, s2, s3⟩ := s_set hT
    have hr5 : ∀ d i, d = 1 ∨ d = 2 ∨ d = 4 ∨ d = 5 ∨ d = 6 → M1 d i = M d i := fun d i hd => funext fun l => s3 d i l (by omega) (by omega)
    obtain ⟨M2, q2, t1, t2, t3⟩ := s_parcel hO hm (Rw_rows (hr5 5 0 (by omega)) hW) (Cl_rows hr5 hC) k0 k1 s2
    rw [hr5 5 0 (by omega)] at t1
    have hx := txP_in hO hm k0 k1
    refine gd_text hR (M1 := M2) (tx := txP A (sPos A a)) ?_ t2 (s3.tr t3) (r_parcel hO hm (mu33 _ (by funext k; rw [t3 21 0 k (by omega) (by omega), s3 21 0 k (by omega) (by omega), hA])) ha e) hx.1 hx.2
    unfold f_L_formatParcel f_X7_formatParcel
    rw [e1, bx_l, if_pos (by omega), bdq (show f_J4_setLength_d00df M (0 : Int32) = some M1 from s1), bdq t1, bdq (s_len t2), bxh_l, nm_s]; rfl
theorem q_formatLink {n : Int} {M : Mem} (n0 : 0 ≤ n) (n1 : n ≤ 512) (hR : Rl n M) (x : Int32) : Gd n (f_L_formatLink M x) (fun M1 => f_X8_formatLink M1 x) := by
  obtain ⟨a, rfl, ha⟩ := z_mk x
  obtain ⟨A, p, h, hO, hm, hC, hW, hA⟩ := hR.view n0 n1
  obtain ⟨l, q, T, hT⟩ := hR.line
  have o4 := hO.2.2.2.1
  have e1 := g_exLink hO hC ha
  by_cases e : 0 ≤ a ∧ a < A 1
  · rw [if_pos e] at e1
    obtain ⟨M1, s1, s2, s3⟩ := s_set hT
    obtain ⟨M2, q2, t1, t2, t3⟩ := sb_int s2 (v := a) e.1 (by omega) (by have := (dg_le (v := a)).1; show (0 : Int) + _ ≤ 34; omega)
    rw [List.nil_append] at t2
    have f2 := s3.tr t3
    have hr5 : ∀ d i, d = 1 ∨ d = 2 ∨ d = 4 ∨ d = 5 ∨ d = 6 → M2 d i = M d i := fun d i hd => funext fun l => f2 d i l (by omega) (by omega)
    obtain ⟨M3, q3, u1, u2, u3⟩ := s_link hO (Cl_rows hr5 hC) e.1 e.2 t2
    have hx := txL_in hO e.1 e.2
    have hw := g_weightOn hO hm.lo (s := 0) (by omega) (Rw_rows (hr5 5 0 (by omega)) hW) (Cl_rows hr5 hC) (l := a) (by omega) (by omega)
    refine gd_text hR (M1 := M3) (tx := txL A a) ?_ u2 (f2.tr u3) (r_link hO hm.lo (mu33 _ (by funext k; rw [u3 21 0 k (by omega) (by omega), f2 21 0 k (by omega) (by omega), hA])) e.1 e.2) hx.1 hx.2
    unfold f_L_formatLink f_X7_formatLink
    rw [e1, bx_l, if_pos (by omega), bdq (show f_J4_setLength_d00df M (0 : Int32) = some M1 from s1), bdq t1, bdq hw, bdq u1, bdq (s_len u2), bxh_l, nm_s]; rfl
  · rw [if_neg e] at e1
    refine gd_no hR (M1 := M) (e := 1) (by omega) (by omega) ?_ (QC.rfl' M) ⟨iZ (-1), mT (mT M 0) 1, ?_, mT_9 _ _, (QR.mT _ _).tr (QR.mT _ _)⟩
    · unfold f_L_formatLink f_X7_formatLink
      rw [e1, bx_r, bxh_r]; rfl
    · show f_X8_formatLink _ _ = _
      unfold f_X8_formatLink
      rw [nm_s, mu0_mT, bdq (g_X8_isLink hO (mT21 0 hA) ha), bI_f e, if_pos (by decide), zc_1, mT_s, bd2_s]
theorem ch_ok : ∀ c, c < 128 → (((((nI c).toInt8.toInt32 &&& (255 : Int32))).toUInt32 % 65536).toInt32) = nI c ∧ (((nI c).toUInt32 % 65536).toInt32) = nI c := by decide +kernel
theorem ch_z {c : Int} (c0 : 0 ≤ c) (c1 : c ≤ 127) : (((((iZ c).toInt8.toInt32 &&& (255 : Int32))).toUInt32 % 65536).toInt32) = iZ c ∧ (((iZ c).toUInt32 % 65536).toInt32) = iZ c := by rw [nI_z c0]; exact ch_ok _ (by omega)
theorem q_lineChar {n : Int} {M : Mem} (n0 : 0 ≤ n) (n1 : n ≤ 512) (hR : Rl n M) (x : Int32) : Gd n (f_L_lineChar M x) (fun M1 => f_X8_lineChar M1 x) := by
  obtain ⟨a, rfl, ha⟩ := z_mk x
  obtain ⟨l, q, T, h1, h2, h3, h4, h5, h6, h7, h8⟩ := hR.line
  have e1 := g_reqIx M ha (b := l) (by omega)
  have hin := fun M1 : Mem => g_X8_in M1 ha (by omega : i32 0) (by omega : i32 (l - 1))
  by_cases e : 0 ≤ a ∧ a < l
  · rw [if_pos e] at e1
    obtain ⟨t1, t2, t3, t4⟩ := h8 a e.1 e.2
    have hz := ch_z (c := T a) (by omega) (by omega)
    have hi := isC_z (v := T a) (by omega) (by omega)
    have hcp : nI (ix (iZ q)) = iZ q := by
      obtain rfl | rfl := h4
      · exact cap_16
      · exact cap_34
    refine gd_ok hR (M1 := M) (r := iZ (T a)) ?_ (QC.rfl' M) ⟨mT (mu M 33 0 0 (iZ (T a))) 0, ?_, mT_9 _ _, QR.mT _ _⟩
    · have hmin : (if iZ q < iZ l then iZ q else iZ l) = iZ l := by rw [if_neg (show ¬ (iZ q < iZ l) by rw [z_lt (by omega) (by omega) (by omega) (by omega)]; omega)]
      unfold f_L_lineChar f_X7_lineChar f_J4_length_8abf5 f_J5_length_8abf5 f_J4_charAt_5068e f_J5_charAt_5068e f_J0_checkIndex_df160
      rw [bd_s, h5, bd_s, e1, bx_l, h7, hcp, shr_0, h5, hmin, if_pos ⟨show ¬ (iZ a < 0) by rw [zc_0, z_lt (by omega) (by omega) (by omega) (by omega)]; omega, show iZ a < iZ l by rw [z_lt (by omega) (by omega) (by omega) (by omega)]; exact e.2⟩, bd_s, if_pos (by decide), z_ix (by omega) (by omega), z_ix (by omega) (by omega), if_pos (of_eq_true (z_vin e.1 (by omega) (by omega))), if_pos (by omega), t3, hz.1, if_pos hi, bd_s, if_pos hi, bd_s, if_pos hi, bxh_l, nm_s]; rfl
    · show f_X8_lineChar _ _ = _
      unfold f_X8_lineChar
      rw [nm_s, mu0_mT, c64_0, show mT (mu M 33 0 0 (iZ (T a))) 0 20 0 15 = iZ l by unfold mT; rw [mu_miss _ _ (by omega), mu_miss _ _ (by omega)]; exact h6, zc_1, z_sub, bdq (hin _), bI_t (by omega), if_neg (by decide), if_pos (of_eq_true (z_vin e.1 (by omega) (by omega))), z_ix (by omega) (by omega), show mT (mu M 33 0 0 (iZ (T a))) 0 29 0 a.toNat = iZ (T a) by unfold mT; rw [mu_miss _ _ (by omega), mu_miss _ _ (by omega)]; exact t4, hz.2, if_pos hi]
  · rw [if_neg e] at e1
    refine gd_no hR (M1 := M) (e := 1) (by omega) (by omega) ?_ (QC.rfl' M) ⟨(((iZ (-1)).toUInt32 % 65536).toInt32), mT (mT M 0) 1, ?_, mT_9 _ _, (QR.mT _ _).tr (QR.mT _ _)⟩
    · unfold f_L_lineChar f_X7_lineChar f_J4_length_8abf5 f_J5_length_8abf5
      rw [bd_s, h5, bd_s, e1, bx_r, bxh_r]; rfl
    · show f_X8_lineChar _ _ = _
      unfold f_X8_lineChar
      rw [nm_s, mu0_mT, c64_0, show mT M 0 20 0 15 = iZ l by unfold mT; rw [mu_miss _ _ (by omega)]; exact h6, zc_1, z_sub, bdq (hin _), bI_f (by omega), if_pos (by decide), mT_s, bd2_s, if_pos (by decide)]
