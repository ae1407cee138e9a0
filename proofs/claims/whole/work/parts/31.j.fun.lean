/-! The run: the reference's execution. -/
theorem HM.of {M M2 : Mem} {cs : List (Nat × List Int)} (hG : Gk cs) (h : ∀ j, M2 32 0 j = M 32 0 j) (hH : HM M cs) : HM M2 cs := fun c hc => by
  have h5 := hG c hc
  have h6 := (cst_nD _ h5.1).1
  exact (hH c hc).of (by omega) (fun j _ _ => h j)
theorem r_run_139 {C : Int → Int} {i : Int} : ∀ (n f : Nat) (M : Mem) (A : Int → Int) (k : Int), M 22 0 = rz C → 0 ≤ k → k + n = 192 → n < f → (∀ j, 0 ≤ j → j < k → A j = C j) →
    ∃ A2, f_X8_run_139 f (mR M 21 0 A) (iZ i) (iZ k) = some (iZ (-1), mT (mu (mR M 21 0 A2) 20 0 8 (iZ i)) 2) ∧ ∀ j, 0 ≤ j → j < 192 → A2 j = C j := by
  intro n
  induction n with
  | zero =>
    intro f M A k hC k0 hk hf hA
    obtain ⟨f, rfl⟩ : ∃ g, f = g + 1 := ⟨f - 1, by omega⟩
    refine ⟨A, ?_, fun j j0 j1 => hA j j0 (by omega)⟩
    show (if (192 : Int32) ≤ iZ k then _ else _) = _
    rw [if_pos (by rw [show (192 : Int32) = iZ 192 from rfl, z_le (by omega) (by omega) (by omega) (by omega)]; omega), nm_s, zc_2, mT_s, bd2_s]
  | succ n ih =>
    intro f M A k hC k0 hk hf hA
    obtain ⟨f, rfl⟩ : ∃ g, f = g + 1 := ⟨f - 1, by omega⟩
    obtain ⟨A2, h1, h2⟩ := ih f M (uI A k (C k)) (k + 1) hC (by omega) (by omega) (by omega) (fun j j0 j1 => by
      by_cases hj : j = k
      · rw [hj, uI_eq]
      · rw [uI_ne _ _ hj]; exact hA j j0 (by omega))
    refine ⟨A2, ?_, h2⟩
    rw [← h1]
    simp (disch := omega) only [f_X8_run_139, hC, ↓reduceIte, ↓nm_s, ↓lk_s, ↓pc_s, z_add, z_sub, z_mul, z_neg, z_le, z_lt, z_eq, z_ix, z_vin, z_rem, zc_0, zc_1, zc_2, zc_3, zc_4, zc_5, zc_6, zc_7, zc_8, zc_9, zc_10, zc_12, zc_20, zc_60, zc_80, zc_108, zc_120, zc_185, zc_192, zc_1344, zc_9999, zc_FAR, zc_NEV, ite_T, ite_F, bd_s, bd2_s, rz_z, toNat_cast, mR_at, mR_ne, mu_mR, il_t, il_f, ilt_t, ilt_f, ieq_t, ieq_f, nlt_t]
theorem r_run_115 {cs : List (Nat × List Int)} (hl10 : cs.length ≤ 10) (hG : Gk cs) : ∀ (L : List (Nat × List Int)) (c f : Nat) (M : Mem) (A : Int → Int) (p h : Int), cs.drop c = L → c + L.length = cs.length → L.length < f → M 20 0 19 = iZ cs.length → M 20 0 9 = iZ 0 → HM M cs → M 21 0 = rz A → Ok p h A → Rm (p + L.length) (h + 120 * L.length + 120) →
    ((exR L c A).1 = none → ∃ M3, f_X8_run_115 f M (iZ c) = (bd2 (f_X8_changed M3 (iZ cs.length)) fun r49 M48 => some (r49, M48)) ∧ M3 21 0 = rz (exR L c A).2 ∧ ∀ d l k, d ≠ 21 → d ≠ 27 → M3 d l k = M d l k) ∧
    (∀ i, (exR L c A).1 = some i → ∃ M3 A3, f_X8_run_115 f M (iZ c) = f_X8_run_139 FU M3 (iZ i) (iZ 0) ∧ M3 21 0 = rz A3 ∧ ∀ d l k, d ≠ 21 → d ≠ 27 → ¬ (d = 20 ∧ l = 0 ∧ k = 9) → M3 d l k = M d l k) := by
  intro L
  induction L with
  | nil =>
    intro c f M A p h hd hl hf h19 h9 hH hA hO hm
    obtain ⟨f, rfl⟩ : ∃ g, f = g + 1 := ⟨f - 1, by omega⟩
    have hl : c = cs.length := hl
    refine ⟨fun _ => ⟨M, ?_, hA, fun _ _ _ _ _ => rfl⟩, fun i hi => by cases hi⟩
    show (if (M 20 0 19) ≤ iZ c then _ else _) = _
    rw [h19, if_pos (show iZ cs.length ≤ iZ c by rw [z_le (by omega) (by omega) (by omega) (by omega)]; omega)]
  | cons cmd L ih =>
    intro c f M A p h hd hl hf h19 h9 hH hA hO hm
    obtain ⟨f, rfl⟩ : ∃ g, f = g + 1 := ⟨f - 1, by omega⟩
    rw [List.length_cons] at hl hf hm
    have hcm : cs.getD c (0, []) = cmd := by
      have := congrArg (fun l => l.getD 0 (0, [])) hd
      simpa [List.getD_eq_getElem?_getD] using this
    have hd2 : cs.drop (c + 1) = L := by rw [← List.tail_drop, hd]; rfl
    obtain ⟨hk, hal⟩ := hG c (by omega)
    have hh := hH c (by omega)
    rw [hcm] at hk hal hh
    have hm0 : Rm p (h + 120) := by unfold Rm at *; omega
    obtain ⟨d1, d2⟩ := g_does hO hm0 hA hk hal (by omega : c ≤ 10) hh
    have hstart : f_X8_run_115 (f + 1) M (iZ c) = (bd (f_X8_does M (iZ (5 * c))) fun M51 => (if (M51 20 0 9) ≤ 0 then f_X8_run_115 f M51 (iZ c + (1 : Int32)) else f_X8_run_139 FU M51 (iZ c) (0 : Int32))) := by
      show (if (M 20 0 19) ≤ iZ c then _ else _) = _
      rw [h19, if_neg (show ¬ (iZ cs.length ≤ iZ c) by rw [z_le (by omega) (by omega) (by omega) (by omega)]; omega), zc_5, z_mul]
    rw [hstart]
    unfold exR
    by_cases hz : rfK A cmd = 0
    · obtain ⟨M1, q1, q2, q3⟩ := d1 hz
      have w9 : M1 20 0 9 = iZ 0 := by rw [q3 20 0 9 (by omega) (by omega)]; exact h9
      rw [if_pos hz, bdq q1, w9, if_pos (by decide), zc_1, z_add]
      obtain ⟨s1, s2⟩ := ih (c + 1) f M1 (dOK A cmd).1 (p + 1) (h + 120) hd2 (by omega) (by omega) (by rw [q3 20 0 19 (by omega) (by omega)]; exact h19) w9 (hH.of hG (fun j => q3 32 0 j (by omega) (by omega))) q2 (Ok_dOK hO hk hz) (by unfold Rm at *; omega)
      refine ⟨fun hn => ?_, fun i hi => ?_⟩
      · obtain ⟨M3, t1, t2, t3⟩ := s1 hn
        exact ⟨M3, t1, t2, fun d l k a1 a2 => (t3 d l k a1 a2).trans (q3 d l k a1 a2)⟩
      · obtain ⟨M3, A3, t1, t2, t3⟩ := s2 i hi
        exact ⟨M3, A3, t1, t2, fun d l k a1 a2 a3 => (t3 d l k a1 a2 a3).trans (q3 d l k a1 a2)⟩
    · obtain ⟨t, t1, t9, q1⟩ := d2 hz
      rw [if_neg hz, bdq q1, mT_9, if_neg (show ¬ (iZ t ≤ (0 : Int32)) by rw [zc_0, z_le (by omega) (by omega) (by omega) (by omega)]; omega), zc_0]
      refine ⟨fun hn => (by cases hn), fun i hi => ?_⟩
      obtain rfl := Option.some.inj hi
      exact ⟨mT M t, A, rfl, by funext k; rw [show mT M t 21 0 k = M 21 0 k from mu_miss _ _ (by omega), hA], fun d l k _ _ a3 => mu_miss _ _ a3⟩
/-- the class keeps and takes the trial -/
theorem g_keepThen {p h p2 h2 : Int} {M : Mem} {A A2 S : Int → Int} {Bf : Int → Int → Int} {o c v : Int} (hK : Lk p h A S Bf o c v) (hL : Lc M A S Bf o c v) (hO2 : Ok p2 h2 A2) (hC1 : Cl M 1 A2) :
    ∃ M1 M2, f_X0_keep M 0 = some M1 ∧ f_X5_copyFrom M1 0 1 = some M2 ∧ Lc M2 A2 S (hB A Bf c) (o8 o c) (c8 c) v ∧ ∀ d i, ¬ (d = 1 ∨ d = 2 ∨ d = 4 ∨ d = 5 ∨ d = 6 ∨ d = 8 ∨ d = 9 ∨ d = 10 ∨ d = 11) → M2 d i = M d i := by
  obtain ⟨hO, o0, o1, c0, c1, hH, hv, hS⟩ := hK
  obtain ⟨l1, l2, l3, l4, l5, l6, l7⟩ := hL
  obtain ⟨M1, q1, q2, q3, q4, q5, q6⟩ := g_keep hO l3 l4 o0 o1 c0 c1 l2 l1
  have hn : 3 + ((o + c) % 8).toNat ≤ 10 := by omega
  have hF1 : FS2 (3 + ((o + c) % 8).toNat) M M1 := fun a i x y => q4 a i x y
  have hR1 : ∀ s, s ≤ 10 → Rw M1 s := fun s hs => by
    by_cases e : 3 + ((o + c) % 8).toNat = s
    · rw [← e]; exact q3
    · exact Rw_FS e hF1 (l2 s hs)
  obtain ⟨M2, p1, p2, p3, p4⟩ := g_copySrv hO2 (s := 0) (t := 1) (by omega) (by omega) (by omega) (hR1 0 (by omega)) (hR1 1 (by omega)) (Cl_FS hO2 (by omega) hF1 (l2 1 (by omega)) hC1)
  refine ⟨M1, M2, q1, p1, ⟨p2, fun s hs => ?_, ?_, ?_, fun j j0 j1 => ?_, ?_, fun hv1 => ?_⟩, fun d i hd => ?_⟩
  · by_cases e : 0 = s
    · rw [← e]; exact p3
    · exact Rw_FS e p4.two (hR1 s hs)
  · rw [p4 11 0 (by unfold own; omega)]; exact q5
  · rw [p4 11 0 (by unfold own; omega)]; exact q6
  · have key : ∀ t, st8 o t ≠ 3 + ((o + c) % 8).toNat → 0 ≤ t → t < c → Cl M2 (st8 o t) (Bf t) := fun t ht t0 t1 => by
      have e1 : st8 o t ≤ 10 := by unfold st8; omega
      exact Cl_FS (hH t t0 t1) (by unfold st8; omega) p4.two (hR1 _ e1) (Cl_FS (hH t t0 t1) (Ne.symm ht) hF1 (l2 _ e1) (l5 t t0 t1))
    have new : Cl M2 (3 + ((o + c) % 8).toNat) A := Cl_FS hO (by omega) p4.two (hR1 _ hn) q2
    unfold c8 at j1
    unfold hB o8
    by_cases hc : c = 8
    · rw [if_pos hc] at j1
      rw [if_pos hc, if_pos hc]
      by_cases hj : j = 7
      · rw [if_pos hj, show st8 ((o + 1) % 8) j = 3 + ((o + c) % 8).toNat by unfold st8; omega]
        exact new
      · rw [if_neg hj, show st8 ((o + 1) % 8) j = st8 o (j + 1) by unfold st8; omega]
        exact key (j + 1) (by unfold st8; omega) (by omega) (by omega)
    · rw [if_neg hc] at j1
      rw [if_neg hc, if_neg hc]
      by_cases hj : j = c
      · rw [if_pos hj, show st8 o j = 3 + ((o + c) % 8).toNat by unfold st8; rw [hj]]
        exact new
      · rw [if_neg hj]
        exact key j (by unfold st8; omega) (by omega) (by omega)
  · rw [p4 0 0 (by unfold own; omega), q4 0 0 (by unfold own; omega) (by omega)]; exact l6
  · exact Cl_FS (hS hv1) (by omega) p4.two (hR1 2 (by omega)) (Cl_FS (hS hv1) (by omega) hF1 (l2 2 (by omega)) (l7 hv1))
  · rw [p4 d i (by unfold own; omega), q4 d i (by unfold own; omega) (by omega)]
