/-! The run: the reference as a whole. -/
def RB (M : Mem) (m : Int) (T : Int → Int) : Prop := 0 ≤ m ∧ m ≤ 60 ∧ M 20 0 11 = iZ m ∧ (∀ j, 0 ≤ j → j < m → 32 ≤ T j ∧ T j ≤ 126 ∧ M 26 0 j.toNat = iZ (T j)) ∧ M 30 0 = letF ∧ M 31 0 = begF
theorem RB.of {M M2 : Mem} {m : Int} {T : Int → Int} (h : RB M m T) (hF : ∀ d i k, (d = 20 ∧ k = 11) ∨ d = 26 ∨ d = 30 ∨ d = 31 → M2 d i k = M d i k) : RB M2 m T := by
  obtain ⟨h1, h2, h3, h4, h5, h6⟩ := h
  exact ⟨h1, h2, by rw [hF 20 0 11 (by omega)]; exact h3, fun j j0 j1 => by rw [hF 26 0 _ (by omega)]; exact h4 j j0 j1, by rw [← h5]; funext k; exact hF 30 0 k (by omega), by rw [← h6]; funext k; exact hF 31 0 k (by omega)⟩
def m78 (M : Mem) (m : Int) : Mem := mu (mu (mu (mu (mu M 20 0 21 (iZ m)) 20 0 11 (iZ 0)) 20 0 20 (iZ 0)) 20 0 19 (iZ 0)) 20 0 22 (iZ 0)
theorem m78_fr (M : Mem) (m : Int) : ∀ d i k, ¬ (d = 20 ∧ (k = 11 ∨ k = 19 ∨ k = 20 ∨ k = 21 ∨ k = 22)) → m78 M m d i k = M d i k := fun d i k h => by
  unfold m78
  rw [mu_miss _ _ (by omega), mu_miss _ _ (by omega), mu_miss _ _ (by omega), mu_miss _ _ (by omega), mu_miss _ _ (by omega)]
theorem m78_11 (M : Mem) (m : Int) : m78 M m 20 0 11 = iZ 0 := by
  unfold m78
  rw [mu_miss _ _ (by omega), mu_miss _ _ (by omega), mu_miss _ _ (by omega), mu_hit]
theorem RT78 {M : Mem} {m : Int} {T : Int → Int} (h : RB M m T) : RT (m78 M m) m T := by
  obtain ⟨h1, h2, h3, h4, h5, h6⟩ := h
  refine ⟨h1, h2, ?_, fun j j0 j1 => ?_, fun k => ?_, fun k => ?_⟩
  · unfold m78
    rw [mu_miss _ _ (by omega), mu_miss _ _ (by omega), mu_miss _ _ (by omega), mu_miss _ _ (by omega), mu_hit]
  · rw [m78_fr _ _ 26 0 _ (by omega)]; exact h4 j j0 j1
  · rw [m78_fr _ _ 30 0 _ (by omega), h5]
  · rw [m78_fr _ _ 31 0 _ (by omega), h6]
theorem r_78 {M : Mem} {m : Int} {T : Int → Int} (h : RB M m T) :
    (∀ e, (PR (hx T m) m 11 0 []).1 = some e → ∃ M3, f_X8_run_34 FU (m78 M m) (iZ 1) = some (iZ (-1), M3) ∧ M3 20 0 9 = iZ 1 ∧ M3 20 0 7 = iZ e ∧ Fe (m78 M m) M3) ∧
    ((PR (hx T m) m 11 0 []).1 = none → ∃ M3, f_X8_run_34 FU (m78 M m) (iZ 1) = f_X8_run_115 FU M3 (iZ 0) ∧ M3 20 0 19 = iZ (PR (hx T m) m 11 0 []).2.length ∧ HM M3 (PR (hx T m) m 11 0 []).2 ∧ Gk (PR (hx T m) m 11 0 []).2 ∧ ∀ d i k, d ≠ 32 → ¬ (d = 20 ∧ (k = 19 ∨ k = 20 ∨ k = 22)) → M3 d i k = m78 M m d i k) := by
  refine r_run 11 FU (m78 M m) 0 [] rfl (by unfold FU; omega) (by show 6 * ((0 : Nat) : Int) ≤ 0; omega) h.1 (RT78 h) ?_ ?_ ?_ (fun c hc => absurd hc (Nat.not_lt_zero _)) (fun c hc => absurd hc (Nat.not_lt_zero _))
  · unfold m78
    rw [mu_miss _ _ (by omega), mu_miss _ _ (by omega), mu_hit]
  · unfold m78
    rw [mu_hit]
  · unfold m78
    rw [mu_miss _ _ (by omega), mu_hit]; rfl
theorem r_start {M : Mem} {A : Int → Int} {m : Int} (hA : M 21 0 = rz A) (h11 : M 20 0 11 = iZ m) : ∃ C, f_X8_run M = f_X8_run_34 FU (m78 (mR (mT M 0) 22 0 C) m) (iZ 1) ∧ (∀ j, 0 ≤ j → j < 192 → C j = A j) ∧ ∀ d i k, d ≠ 22 → ¬ (d = 20 ∧ k = 9) → mR (mT M 0) 22 0 C d i k = M d i k := by
  obtain ⟨C, q1, q2⟩ := g_starts hA
  have e1 : ∀ d i k, d ≠ 22 → ¬ (d = 20 ∧ k = 9) → mR (mT M 0) 22 0 C d i k = M d i k := fun d i k h1 h2 => by
    rw [mR_ne _ _ (by omega)]; unfold mT; rw [mu_miss _ _ (by omega)]
  refine ⟨C, ?_, q2, e1⟩
  unfold f_X8_run
  rw [bdq q1, nm_s, nm_s, nm_s, nm_s, nm_s, e1 20 0 11 (by omega) (by omega), h11, zc_0, zc_1]
  rfl
theorem r_err {M : Mem} {A T : Int → Int} {m e : Int} (hA : M 21 0 = rz A) (hT : RB M m T) (he : (PR (hx T m) m 11 0 []).1 = some e) :
    ∃ M3, f_X8_run M = some (iZ (-1), M3) ∧ M3 20 0 9 = iZ 1 ∧ M3 20 0 7 = iZ e ∧ M3 20 0 11 = iZ 0 ∧ ∀ d i k, d ≠ 22 → d ≠ 32 → ¬ (d = 20 ∧ (k = 7 ∨ k = 9 ∨ k = 11 ∨ k = 19 ∨ k = 20 ∨ k = 21 ∨ k = 22)) → M3 d i k = M d i k := by
  obtain ⟨C, q1, q2, q3⟩ := r_start hA hT.2.2.1
  obtain ⟨M3, p1, p2, p3, p4⟩ := (r_78 (hT.of (fun d i k hd => q3 d i k (by omega) (by omega)))).1 e he
  refine ⟨M3, by rw [q1, p1], p2, p3, ?_, fun d i k h1 h2 h3 => ?_⟩
  · rw [p4 20 0 11 (by omega) (by omega), m78_11]
  · rw [p4 d i k h2 (by omega), m78_fr _ _ d i k (by omega), q3 d i k h1 (by omega)]
theorem r_mid {M : Mem} {A T : Int → Int} {m : Int} (hA : M 21 0 = rz A) (hT : RB M m T) (he : (PR (hx T m) m 11 0 []).1 = none) :
    ∃ C M3, f_X8_run M = f_X8_run_115 FU M3 (iZ 0) ∧ (∀ j, 0 ≤ j → j < 192 → C j = A j) ∧ M3 22 0 = rz C ∧ M3 20 0 9 = iZ 0 ∧ M3 20 0 11 = iZ 0 ∧ M3 20 0 19 = iZ (PR (hx T m) m 11 0 []).2.length ∧ HM M3 (PR (hx T m) m 11 0 []).2 ∧ Gk (PR (hx T m) m 11 0 []).2 ∧ ∀ d i k, d ≠ 22 → d ≠ 32 → ¬ (d = 20 ∧ (k = 9 ∨ k = 11 ∨ k = 19 ∨ k = 20 ∨ k = 21 ∨ k = 22)) → M3 d i k = M d i k := by
  obtain ⟨C, q1, q2, q3⟩ := r_start hA hT.2.2.1
  obtain ⟨M3, p1, p2, p3, p4, p5⟩ := (r_78 (hT.of (fun d i k hd => q3 d i k (by omega) (by omega)))).2 he
  refine ⟨C, M3, by rw [q1, p1], q2, ?_, ?_, ?_, p2, p3, p4, fun d i k h1 h2 h3 => ?_⟩
  · funext k
    rw [p5 22 0 k (by omega) (by omega), m78_fr _ _ 22 0 k (by omega), mR_at]
  · rw [p5 20 0 9 (by omega) (by omega), m78_fr _ _ 20 0 9 (by omega), mR_ne _ _ (by omega)]; exact mT_9 _ _
  · rw [p5 20 0 11 (by omega) (by omega), m78_11]
  · rw [p5 d i k h2 (by omega), m78_fr _ _ d i k (by omega), q3 d i k h1 (by omega)]
theorem r_fail {p h : Int} {M : Mem} {A T : Int → Int} {m : Int} {cs : List (Nat × List Int)} (hA : M 21 0 = rz A) (hT : RB M m T) (he : PR (hx T m) m 11 0 [] = (none, cs)) (hl10 : cs.length ≤ 10) (hO : Ok p h A) (hm : Rm (p + cs.length) (h + 120 * cs.length + 120)) {i : Nat} (hi : (exR cs 0 A).1 = some i) :
    ∃ M3 A2, f_X8_run M = some (iZ (-1), M3) ∧ M3 20 0 9 = iZ 2 ∧ M3 20 0 8 = iZ i ∧ M3 20 0 11 = iZ 0 ∧ M3 21 0 = rz A2 ∧ Eq192 A A2 ∧ ∀ d i k, d ≠ 21 → d ≠ 22 → d ≠ 27 → d ≠ 32 → ¬ (d = 20 ∧ (k = 8 ∨ k = 9 ∨ k = 11 ∨ k = 19 ∨ k = 20 ∨ k = 21 ∨ k = 22)) → M3 d i k = M d i k := by
  obtain ⟨C, M1, q1, q2, q3, q4, q5, q6, q7, q8, q9⟩ := r_mid hA hT (by rw [he])
  rw [he] at q6 q7 q8
  obtain ⟨M2, A3, s1, s2, s3⟩ := (r_run_115 hl10 q8 cs 0 FU M1 A p h rfl (by omega) (by unfold FU; omega) q6 q4 q7 (by funext k; rw [q9 21 0 k (by omega) (by omega) (by omega), hA]) hO hm).2 i hi
  obtain ⟨A2, u1, u2⟩ := r_run_139 (C := C) (i := i) 192 FU M2 A3 0 (by funext k; rw [s3 22 0 k (by omega) (by omega) (by omega), q3]) (by omega) (by omega) (by unfold FU; omega) (fun j j0 j1 => by omega)
  rw [mR_id s2] at u1
  have w : ∀ d l k, d ≠ 21 → ¬ (d = 20 ∧ (k = 8 ∨ k = 9)) → mT (mu (mR M2 21 0 A2) 20 0 8 (iZ i)) 2 d l k = M2 d l k := fun d l k a1 a2 => by
    unfold mT; rw [mu_miss _ _ (by omega), mu_miss _ _ (by omega), mR_ne _ _ (by omega)]
  refine ⟨mT (mu (mR M2 21 0 A2) 20 0 8 (iZ i)) 2, A2, ?_, mT_9 _ _, ?_, ?_, ?_, fun j j0 j1 => by rw [u2 j j0 j1, q2 j j0 j1], fun d l k a1 a2 a3 a4 a5 => ?_⟩
  · rw [q1]
    exact s1.trans u1
  · unfold mT; rw [mu_miss _ _ (by omega), mu_hit]
  · rw [w 20 0 11 (by omega) (by omega), s3 20 0 11 (by omega) (by omega) (by omega)]; exact q5
  · funext k
    unfold mT; rw [mu_miss _ _ (by omega), mu_miss _ _ (by omega), mR_at]
  · rw [w d l k a1 (by omega), s3 d l k a1 a3 (by omega), q9 d l k a2 a4 (by omega)]
theorem r_succ {p h : Int} {M : Mem} {A S T : Int → Int} {Bf : Int → Int → Int} {c v m : Int} {cs : List (Nat × List Int)} (hL : Lr M A S Bf c v) (c0 : 0 ≤ c) (c1 : c ≤ 8) (hT : RB M m T) (he : PR (hx T m) m 11 0 [] = (none, cs)) (hl10 : cs.length ≤ 10) (hO : Ok p h A) (hm : Rm (p + cs.length) (h + 120 * cs.length + 120)) (hi : (exR cs 0 A).1 = none) :
    ∃ M3, f_X8_run M = some (iZ cs.length, M3) ∧ M3 20 0 9 = iZ 0 ∧ Lr M3 (exR cs 0 A).2 S (hB A Bf c) (c8 c) v ∧ M3 20 0 11 = iZ 0 ∧ ∀ d i k, d ≠ 21 → d ≠ 22 → d ≠ 25 → d ≠ 27 → d ≠ 32 → ¬ (d = 20 ∧ (k = 6 ∨ k = 9 ∨ k = 11 ∨ k = 19 ∨ k = 20 ∨ k = 21 ∨ k = 22)) → M3 d i k = M d i k := by
  obtain ⟨l1, l2, ⟨B, l3, l3'⟩, l4, l5⟩ := hL
  obtain ⟨C, M1, q1, q2, q3, q4, q5, q6, q7, q8, q9⟩ := r_mid l1 hT (by rw [he])
  rw [he] at q6 q7 q8
  obtain ⟨M2, s1, s2, s3⟩ := (r_run_115 hl10 q8 cs 0 FU M1 A p h rfl (by omega) (by unfold FU; omega) q6 q4 q7 (by funext k; rw [q9 21 0 k (by omega) (by omega) (by omega), l1]) hO hm).1 hi
  have e2 : ∀ d i k, d ≠ 21 → d ≠ 22 → d ≠ 27 → d ≠ 32 → ¬ (d = 20 ∧ (k = 9 ∨ k = 11 ∨ k = 19 ∨ k = 20 ∨ k = 21 ∨ k = 22)) → M2 d i k = M d i k := fun d i k a1 a2 a3 a4 a5 => by
    rw [s3 d i k a1 a3, q9 d i k a2 a4 a5]
  obtain ⟨M3, B3, c3, t1, t2, t3, t4, t5, t6, t7⟩ := g_changed (M := M2) (B := B) (C := C) (c := c) (iZ cs.length) (by rw [s3 20 0 9 (by omega) (by omega)]; exact q4) (by funext k; rw [e2 25 0 k (by omega) (by omega) (by omega) (by omega) (by omega), l3]) (by funext k; rw [s3 22 0 k (by omega) (by omega), q3]) (by rw [e2 20 0 6 (by omega) (by omega) (by omega) (by omega) (by omega)]; exact l4) c0 c1
  have hc3 : c3 = c8 c := t5
  refine ⟨M3, ?_, ?_, ⟨?_, ?_, ⟨B3, t3, fun i i0 i1 j j0 j1 => ?_⟩, ?_, ?_⟩, ?_, fun d i k a1 a2 a3 a4 a5 a6 => ?_⟩
  · rw [q1]
    refine s1.trans ?_
    rw [t1, bd2_s]
  · rw [t2 20 0 9 (by omega) (by omega), s3 20 0 9 (by omega) (by omega)]; exact q4
  · funext k; rw [t2 21 0 k (by omega) (by omega), s2]
  · funext k; rw [t2 24 0 k (by omega) (by omega), e2 24 0 k (by omega) (by omega) (by omega) (by omega) (by omega), l2]
  · rw [← hc3] at i1
    unfold hB
    by_cases hc : c = 8
    · rw [if_pos hc] at t5
      rw [if_pos hc]
      by_cases hj : i = 7
      · rw [if_pos hj, show i = c3 - 1 by omega, t6 j j0 j1, q2 j j0 j1]
      · rw [if_neg hj, t7 i j i0 (by omega) j0 j1, if_pos hc]
        exact l3' (i + 1) (by omega) (by omega) j j0 j1
    · rw [if_neg hc] at t5
      rw [if_neg hc]
      by_cases hj : i = c
      · rw [if_pos hj, show i = c3 - 1 by omega, t6 j j0 j1, q2 j j0 j1]
      · rw [if_neg hj, t7 i j i0 (by omega) j0 j1, if_neg hc]
        exact l3' i (by omega) (by omega) j j0 j1
  · rw [← hc3]; exact t4
  · rw [t2 20 0 4 (by omega) (by omega), e2 20 0 4 (by omega) (by omega) (by omega) (by omega) (by omega)]; exact l5
  · rw [t2 20 0 11 (by omega) (by omega), s3 20 0 11 (by omega) (by omega)]; exact q5
  · rw [t2 d i k (by omega) (by omega), e2 d i k a1 a2 a4 a5 (by omega)]
