/-! The reference's program. -/
def HM (M : Mem) (cs : List (Nat × List Int)) : Prop := ∀ c, c < cs.length → Hc1 M (cs.getD c (0, [])).1 (cs.getD c (0, [])).2 (5 * c)
def Gk (cs : List (Nat × List Int)) : Prop := ∀ c, c < cs.length → (cs.getD c (0, [])).1 < 11 ∧ (cs.getD c (0, [])).2.length = nD (cst (cs.getD c (0, [])).1)
theorem Gk.app {cs : List (Nat × List Int)} (h : Gk cs) {k : Nat} {args : List Int} (hk : k < 11) (ha : args.length = nD (cst k)) : Gk (cs ++ [(k, args)]) := fun c hc => by
  rw [List.length_append, List.length_singleton] at hc
  by_cases e : c = cs.length
  · subst e; rw [gDc_r]; exact ⟨hk, ha⟩
  · rw [gDc_l (by omega)]; exact h c (by omega)
theorem Hc1.of {M M2 : Mem} {k : Nat} {args : List Int} {to : Nat} (h : Hc1 M k args to) (hl : args.length ≤ 4) (hF : ∀ j, to ≤ j → j < to + 5 → M2 32 0 j = M 32 0 j) : Hc1 M2 k args to := by
  unfold Hc1 at *
  by_cases e : k = 10
  · rw [if_pos e] at h ⊢
    rw [hF to (by omega) (by omega), hF (to + 1) (by omega) (by omega)]; exact h
  · rw [if_neg e] at h ⊢
    refine ⟨by rw [hF to (by omega) (by omega)]; exact h.1, fun j hj => by rw [hF (to + 1 + j) (by omega) (by omega)]; exact h.2 j hj⟩
def Fe (M M2 : Mem) : Prop := ∀ d i k, d ≠ 32 → ¬ (d = 20 ∧ (k = 7 ∨ k = 9 ∨ k = 19 ∨ k = 20 ∨ k = 22)) → M2 d i k = M d i k
theorem r_end0 {M : Mem} {f : Nat} (h : M 20 0 22 = iZ 0) : f_X8_run_34 (f + 1) M (iZ 0) = f_X8_run_115 FU M (iZ 0) := by
  show (if iZ 0 = 0 then _ else _) = _
  rw [if_pos (by decide), h, if_pos (by decide)]; rfl
theorem r_end1 {M : Mem} {f : Nat} {p : Int} (h : M 20 0 22 = iZ 1) (hp : M 20 0 20 = iZ p) : ∃ M3, f_X8_run_34 (f + 1) M (iZ 0) = some (iZ (-1), M3) ∧ M3 20 0 9 = iZ 1 ∧ M3 20 0 7 = iZ p ∧ Fe M M3 := by
  refine ⟨mT (mu M 20 0 7 (iZ p)) 1, ?_, mT_9 _ _, ?_, fun d i k h1 h2 => ?_⟩
  · show (if iZ 0 = 0 then _ else _) = _
    rw [if_pos (by decide), h, if_neg n10, hp, nm_s, zc_1, mT_s, bd2_s]
  · unfold mT; rw [mu_miss _ _ (by omega), mu_hit]
  · unfold mT; rw [mu_miss _ _ (by omega), mu_miss _ _ (by omega)]
theorem r_run {T : Int → Int} {m : Int} : ∀ (n f : Nat) (M : Mem) (s : Int) (cs : List (Nat × List Int)), cs.length + n = 11 → n + 2 ≤ f → 6 * (cs.length : Int) ≤ s → s ≤ m → RT M m T → M 20 0 20 = iZ s → M 20 0 22 = iZ 0 → M 20 0 19 = iZ cs.length → HM M cs → Gk cs →
    (∀ e, (PR (hx T m) m n s cs).1 = some e → ∃ M3, f_X8_run_34 f M (iZ 1) = some (iZ (-1), M3) ∧ M3 20 0 9 = iZ 1 ∧ M3 20 0 7 = iZ e ∧ Fe M M3) ∧
    ((PR (hx T m) m n s cs).1 = none → ∃ M3, f_X8_run_34 f M (iZ 1) = f_X8_run_115 FU M3 (iZ 0) ∧ M3 20 0 19 = iZ (PR (hx T m) m n s cs).2.length ∧ HM M3 (PR (hx T m) m n s cs).2 ∧ Gk (PR (hx T m) m n s cs).2 ∧ ∀ d i k, d ≠ 32 → ¬ (d = 20 ∧ (k = 19 ∨ k = 20 ∨ k = 22)) → M3 d i k = M d i k) := by
  intro n
  induction n with
  | zero =>
    intro f M s cs h1 hf h2 h3 hT
    have := hT.2.1
    omega
  | succ n ih =>
    intro f M s cs h1 hf h2 h3 hT h20 h22 h19 hM hG
    obtain ⟨f, rfl⟩ : ∃ g, f = g + 1 + 1 := ⟨f - 2, by omega⟩
    have hm1 := hT.2.1
    have s0 : 0 ≤ s := by omega
    obtain ⟨M1, q1, q2, q3, q4⟩ := r_cmd hT h20 s0 h3 h19 (by omega)
    obtain ⟨-, e2, e3, e4⟩ := ec_rc (T := T) (f := s) s0 h3 (Int.le_refl s)
    have hT1 : RT M1 m T := hT.of (fun d i k hd => q3 d i k (by omega) (by omega))
    have hstart : f_X8_run_34 (f + 1 + 1) M (iZ 1) = (if (M1 20 0 22) = 0 then (if (M1 20 0 21) ≤ (M1 20 0 20) then f_X8_run_64 (f_X8_run_34 (f + 1)) M1 else f_X8_run_65 (f_X8_run_34 (f + 1)) M1 (1 : Int32)) else f_X8_run_64 (f_X8_run_34 (f + 1)) M1) := by
      show (if iZ 1 = 0 then _ else _) = _
      rw [if_neg n10, bdq q1]
    have h64 : f_X8_run_64 (f_X8_run_34 (f + 1)) M1 = f_X8_run_34 (f + 1) M1 (iZ 0) := by
      unfold f_X8_run_64 f_X8_run_65
      rw [if_pos (by decide)]; rfl
    rw [hstart, h64, hT1.2.2.1]
    by_cases hok : (rc (hx T m) s).2.1 = true
    · obtain ⟨g1, g2⟩ := q4 hok
      have w20 : M1 20 0 20 = iZ (rc (hx T m) s).1 := q2.1
      have w22 : M1 20 0 22 = iZ 0 := by have := q2.2; rw [hok] at this; exact this
      rw [w22, if_pos (by decide), w20]
      by_cases hg : gE (hx T m) m (rc (hx T m) s).1
      · have hgg : (rc (hx T m) s).2.1 = true ∧ gE (hx T m) m (rc (hx T m) s).1 := ⟨hok, hg⟩
        obtain ⟨k1, k2⟩ := e2 hgg
        have hrk := rk_in (hx T m) s
        have hal : (rc (hx T m) s).2.2.length = nD (cst (rk (hx T m) s)) := by
          rw [← k1]
          exact wk_nD _ _ (by rw [k1]; exact hok)
        have hal4 := (cst_nD _ hrk).1
        have hG1 : Gk (cs ++ [(rk (hx T m) s, (rc (hx T m) s).2.2)]) := hG.app hrk hal
        have hM1 : HM M1 (cs ++ [(rk (hx T m) s, (rc (hx T m) s).2.2)]) := fun c hc => by
          rw [List.length_append, List.length_singleton] at hc
          by_cases e : c = cs.length
          · subst e; rw [gDc_r]; exact g2
          · rw [gDc_l (by omega)]
            have h5 := hG c (by omega)
            have h6 := (cst_nD _ h5.1).1
            exact (hM c (by omega)).of (by omega) (fun j j0 j1 => q3 32 0 j (by omega) (by omega))
        have hln : ((cs ++ [(rk (hx T m) s, (rc (hx T m) s).2.2)]).length : Int) = cs.length + 1 := by rw [List.length_append, List.length_singleton]; rfl
        by_cases hm : (rc (hx T m) s).1 = m
        · have hPR : PR (hx T m) m (n + 1) s cs = (none, cs ++ [(rk (hx T m) s, (rc (hx T m) s).2.2)]) := by rw [PR, if_pos hgg, if_pos hm]
          rw [hPR, if_pos (show iZ m ≤ iZ (rc (hx T m) s).1 by rw [z_le (by omega) (by omega) (by omega) (by omega)]; omega), r_end0 w22]
          refine ⟨fun e h => (by cases h), fun _ => ⟨M1, rfl, ?_, hM1, hG1, fun d i k h1 h2 => q3 d i k (by omega) (by omega)⟩⟩
          show M1 20 0 19 = iZ ((cs ++ [(rk (hx T m) s, (rc (hx T m) s).2.2)]).length : Int)
          rw [hln]; exact g1
        · have h59 : hx T m (rc (hx T m) s).1 = 59 := hg.resolve_left hm
          have hPR : PR (hx T m) m (n + 1) s cs = PR (hx T m) m n ((rc (hx T m) s).1 + 1) (cs ++ [(rk (hx T m) s, (rc (hx T m) s).2.2)]) := by rw [PR, if_pos hgg, if_neg hm]
          obtain ⟨M2, u1, u2, u3, u4, u5⟩ := r_exp hT1 (st := ((rc (hx T m) s).1, true)) ⟨w20, w22⟩ (by show 0 ≤ (rc (hx T m) s).1; omega) e4 (c := 59) (by omega) (by omega) 1000
          have hpe : pe (hx T m) 59 ((rc (hx T m) s).1, true) = ((rc (hx T m) s).1 + 1, true) := if_pos ⟨rfl, h59⟩
          rw [hpe] at u2
          have hT2 := hT1.fa u3
          have hgo : (if iZ m ≤ iZ (rc (hx T m) s).1 then f_X8_run_34 (f + 1) M1 (iZ 0) else f_X8_run_65 (f_X8_run_34 (f + 1)) M1 (1 : Int32)) = f_X8_run_34 (f + 1) M2 (iZ 1) := by
            rw [if_neg (show ¬ (iZ m ≤ iZ (rc (hx T m) s).1) by rw [z_le (by omega) (by omega) (by omega) (by omega)]; omega)]
            unfold f_X8_run_65 f_X8_run_88
            rw [if_neg (by decide), show (59 : Int32) = iZ 59 from rfl, bdq u1, show M2 20 0 22 = iZ 0 from u2.2, if_pos (by decide)]; rfl
          rw [hgo, hPR]
          obtain ⟨r1, r2⟩ := ih (f + 1) M2 ((rc (hx T m) s).1 + 1) (cs ++ [(rk (hx T m) s, (rc (hx T m) s).2.2)]) (by omega) (by omega) (by omega) (by omega) hT2 u2.1 u2.2 (by rw [u3 20 0 19 (by omega) (by omega), hln]; exact g1) (fun c hc => by
            have h5 := hG1 c hc
            have h6 := (cst_nD _ h5.1).1
            have h7 : c < 11 := by omega
            exact (hM1 c hc).of (by omega) (fun j j0 j1 => u3 32 0 j (by omega) (by omega))) hG1
          refine ⟨fun e he => ?_, fun he => ?_⟩
          · obtain ⟨M3, t1, t2, t3, t4⟩ := r1 e he
            exact ⟨M3, t1, t2, t3, fun d i k h1 h2 => by rw [t4 d i k h1 h2, u3 d i k (by omega) (by omega), q3 d i k (by omega) (by omega)]⟩
          · obtain ⟨M3, t1, t2, t3, t4, t5⟩ := r2 he
            exact ⟨M3, t1, t2, t3, t4, fun d i k h1 h2 => by rw [t5 d i k h1 h2, u3 d i k (by omega) (by omega), q3 d i k (by omega) (by omega)]⟩
      · have hgg : ¬ ((rc (hx T m) s).2.1 = true ∧ gE (hx T m) m (rc (hx T m) s).1) := fun hc => hg hc.2
        have hPR : PR (hx T m) m (n + 1) s cs = (some (rc (hx T m) s).1, cs) := by rw [PR, if_neg hgg]
        have hpm : (rc (hx T m) s).1 ≠ m := fun hc => hg (.inl hc)
        have h59 : hx T m (rc (hx T m) s).1 ≠ 59 := fun hc => hg (.inr hc)
        obtain ⟨M2, u1, u2, u3, u4, u5⟩ := r_exp hT1 (st := ((rc (hx T m) s).1, true)) ⟨w20, w22⟩ (by show 0 ≤ (rc (hx T m) s).1; omega) e4 (c := 59) (by omega) (by omega) 1000
        have hpe : pe (hx T m) 59 ((rc (hx T m) s).1, true) = ((rc (hx T m) s).1, false) := if_neg (fun hc => h59 hc.2)
        rw [hpe] at u2
        have hgo : (if iZ m ≤ iZ (rc (hx T m) s).1 then f_X8_run_34 (f + 1) M1 (iZ 0) else f_X8_run_65 (f_X8_run_34 (f + 1)) M1 (1 : Int32)) = f_X8_run_34 (f + 1) M2 (iZ 0) := by
          rw [if_neg (show ¬ (iZ m ≤ iZ (rc (hx T m) s).1) by rw [z_le (by omega) (by omega) (by omega) (by omega)]; omega)]
          unfold f_X8_run_65 f_X8_run_88
          rw [if_neg (by decide), show (59 : Int32) = iZ 59 from rfl, bdq u1, show M2 20 0 22 = iZ 1 from u2.2, if_neg (by decide)]; rfl
        rw [hgo, hPR]
        refine ⟨fun e he => ?_, fun he => (by cases he)⟩
        obtain rfl := Option.some.inj he
        obtain ⟨M3, t1, t2, t3, t4⟩ := r_end1 (f := f) (p := (rc (hx T m) s).1) u2.2 u2.1
        exact ⟨M3, t1, t2, t3, fun d i k h1 h2 => by rw [t4 d i k h1 h2, u3 d i k (by omega) (by omega), q3 d i k (by omega) (by omega)]⟩
    · have hgg : ¬ ((rc (hx T m) s).2.1 = true ∧ gE (hx T m) m (rc (hx T m) s).1) := fun hc => hok hc.1
      have hPR : PR (hx T m) m (n + 1) s cs = (some (rc (hx T m) s).1, cs) := by rw [PR, if_neg hgg]
      have w22 : M1 20 0 22 = iZ 1 := by have := q2.2; rw [show (rc (hx T m) s).2.1 = false by simpa using hok] at this; exact this
      rw [hPR, w22, if_neg n10]
      refine ⟨fun e he => ?_, fun he => (by cases he)⟩
      obtain rfl := Option.some.inj he
      obtain ⟨M3, t1, t2, t3, t4⟩ := r_end1 (f := f) (p := (rc (hx T m) s).1) w22 q2.1
      exact ⟨M3, t1, t2, t3, fun d i k h1 h2 => by rw [t4 d i k h1 h2, q3 d i k (by omega) (by omega)]⟩
