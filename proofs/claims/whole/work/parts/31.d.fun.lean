/-! The class's parser: commands, the program. -/
theorem g_formOf (M : Mem) {k : Nat} (hk : k < 11) : f_X4_formOf M (iZ k) = some k := by
  obtain rfl | rfl | rfl | rfl | rfl | rfl | rfl | rfl | rfl | rfl | rfl : k = 0 ∨ k = 1 ∨ k = 2 ∨ k = 3 ∨ k = 4 ∨ k = 5 ∨ k = 6 ∨ k = 7 ∨ k = 8 ∨ k = 9 ∨ k = 10 := by omega
  all_goals rfl
theorem cst_nD : ∀ k, k < 11 → nD (cst k) ≤ 4 ∧ (cst k).length ≤ 11 := by decide +kernel
theorem g_form {T : Int → Int} {m cnt : Int} {i : Nat} (hi : i < 11) (c0 : 0 ≤ cnt) (c1 : cnt ≤ 10) {M : Mem} {s fur : Int} (hT : CT M m T) (h4 : M 13 0 4 = iZ cnt) (h5 : M 13 0 5 = iZ fur) (f0 : 0 ≤ fur) (f1 : fur ≤ 100) (s0 : 0 ≤ s) (s1 : s ≤ m) :
    ∃ M2, f_X4_endOfForm M i (iZ s) = some (iZ (if (wk (hx T m) (cst i) s).2.1 = true then (wk (hx T m) (cst i) s).1 else -1), M2) ∧ Fp cnt M M2 ∧ M2 13 0 5 = iZ (if (wk (hx T m) (cst i) s).2.1 = true then fur else max fur (wk (hx T m) (cst i) s).1) ∧
      (cnt < 10 → (wk (hx T m) (cst i) s).2.1 = true → ∀ j, j < (wk (hx T m) (cst i) s).2.2.length → M2 17 cnt.toNat j = iZ ((wk (hx T m) (cst i) s).2.2.getD j 0)) := by
  have h := cst_nD i hi
  obtain ⟨M2, p1, p2, p3, p4, p5⟩ := g_form_8 hi c0 c1 (cst i) FU M s fur 0 0 rfl (by omega) (by unfold FU; omega) hT h4 h5 f0 f1 s0 s1 (by omega)
  exact ⟨M2, p1, p2, p3, fun hc hok j hj => by have := p4 hc hok j hj; rw [Nat.zero_add] at this; exact this⟩
/-- .. and its counts -/
def Fc (cnt : Int) (M M2 : Mem) : Prop := ∀ d i k, ¬ (d = 13 ∧ (k = 4 ∨ k = 5)) → ¬ (d = 15 ∧ k = cnt.toNat) → ¬ (d = 17 ∧ i = cnt.toNat) → M2 d i k = M d i k
theorem Fp.c {cnt : Int} {M M2 : Mem} (h : Fp cnt M M2) : Fc cnt M M2 := fun d i k h1 h2 h3 => h d i k (by omega) h3
theorem Fc.tr {cnt : Int} {M M2 M3 : Mem} (h : Fc cnt M M2) (h2 : Fc cnt M2 M3) : Fc cnt M M3 := fun d i k a b c => (h2 d i k a b c).trans (h d i k a b c)
def ecP (x : Int → Int) (s : Int) : Option Nat → Int
  | none => -1
  | some j => (wk x (cst j) s).1
theorem ecP_n (x : Int → Int) (s : Int) : ecP x s none = -1 := rfl
theorem ecP_s (x : Int → Int) (s : Int) (j : Nat) : ecP x s (some j) = (wk x (cst j) s).1 := rfl
theorem g_cmd_2 {T : Int → Int} {m cnt s : Int} (c0 : 0 ≤ cnt) (c1 : cnt ≤ 10) (s0 : 0 ≤ s) (s1 : s ≤ m) (hc : cnt < 10 ∨ ∀ k, k < 11 → (wk (hx T m) (cst k) s).2.1 = false) : ∀ (n f : Nat) (M : Mem) (k : Nat) (fur : Int), k + n = 11 → n < f → CT M m T → M 13 0 4 = iZ cnt → M 13 0 5 = iZ fur → 0 ≤ fur → fur ≤ 100 →
    ∃ M2, f_X4_endOfCommand_2 f M (iZ s) (iZ k) = some (iZ (ecP (hx T m) s (ec (hx T m) m s n k fur).1), M2) ∧ Fc cnt M M2 ∧ M2 13 0 5 = iZ (ec (hx T m) m s n k fur).2 ∧
      ((ec (hx T m) m s n k fur).1 = none → M2 13 0 4 = iZ cnt) ∧ ∀ j, (ec (hx T m) m s n k fur).1 = some j → cnt < 10 ∧ M2 13 0 4 = iZ (cnt + 1) ∧ M2 15 0 cnt.toNat = iZ j ∧ ∀ i, i < (wk (hx T m) (cst j) s).2.2.length → M2 17 cnt.toNat i = iZ ((wk (hx T m) (cst j) s).2.2.getD i 0) := by
  intro n
  induction n with
  | zero =>
    intro f M k fur hk hf hT h4 h5 f0 f1
    obtain ⟨f, rfl⟩ : ∃ g, f = g + 1 := ⟨f - 1, by omega⟩
    refine ⟨M, ?_, fun _ _ _ _ _ _ => rfl, h5, fun _ => h4, fun j hj => by cases hj⟩
    show (if (11 : Int32) ≤ iZ k then _ else _) = _
    rw [if_pos (show (11 : Int32) ≤ iZ k by rw [show (11 : Int32) = iZ 11 from rfl, z_le (by omega) (by omega) (by omega) (by omega)]; omega)]
    rfl
  | succ n ih =>
    intro f M k fur hk hf hT h4 h5 f0 f1
    obtain ⟨f, rfl⟩ : ∃ g, f = g + 1 := ⟨f - 1, by omega⟩
    have hkk : k < 11 := by omega
    have hm1 := hT.2.1
    have hr := wk_in (T := T) (m := m) (cst k) s (cst_pos k hkk) s0 s1
    obtain ⟨M1, p1, p2, p3, p4⟩ := g_form hkk c0 c1 hT h4 h5 f0 f1 s0 s1
    have hT1 : CT M1 m T := hT.of (p2 13 0 1 (by omega) (by omega)) (fun k => p2 14 0 k (by omega) (by omega))
    have h41 : M1 13 0 4 = iZ cnt := by rw [p2 13 0 4 (by omega) (by omega)]; exact h4
    have hstart : f_X4_endOfCommand_2 (f + 1) M (iZ s) (iZ k) = (if iZ (if (wk (hx T m) (cst k) s).2.1 = true then (wk (hx T m) (cst k) s).1 else -1) = (-1 : Int32) then f_X4_endOfCommand_85 (f_X4_endOfCommand_2 f) M1 (iZ s) (iZ k) else nm (mu M1 13 0 5 (if (M1 13 0 5) < iZ (if (wk (hx T m) (cst k) s).2.1 = true then (wk (hx T m) (cst k) s).1 else -1) then iZ (if (wk (hx T m) (cst k) s).2.1 = true then (wk (hx T m) (cst k) s).1 else -1) else (M1 13 0 5))) fun M24 => (if (10 : Int32) ≤ (M24 13 0 4) then f_X4_endOfCommand_85 (f_X4_endOfCommand_2 f) M24 (iZ s) (iZ k) else (if iZ (if (wk (hx T m) (cst k) s).2.1 = true then (wk (hx T m) (cst k) s).1 else -1) = (M24 13 0 1) then f_X4_endOfCommand_63 M24 (iZ k) (iZ (if (wk (hx T m) (cst k) s).2.1 = true then (wk (hx T m) (cst k) s).1 else -1)) else if vin (iZ (if (wk (hx T m) (cst k) s).2.1 = true then (wk (hx T m) (cst k) s).1 else -1)) 60 then ((if (M24 14 0 (ix (iZ (if (wk (hx T m) (cst k) s).2.1 = true then (wk (hx T m) (cst k) s).1 else -1)))) = (59 : Int32) then f_X4_endOfCommand_63 M24 (iZ k) (iZ (if (wk (hx T m) (cst k) s).2.1 = true then (wk (hx T m) (cst k) s).1 else -1)) else f_X4_endOfCommand_85 (f_X4_endOfCommand_2 f) M24 (iZ s) (iZ k))) else none))) := by
      show (if (11 : Int32) ≤ iZ k then _ else _) = _
      rw [if_neg (show ¬ ((11 : Int32) ≤ iZ k) by rw [show (11 : Int32) = iZ 11 from rfl, z_le (by omega) (by omega) (by omega) (by omega)]; omega), bdq (g_formOf M hkk), if_pos (by omega), p1, bd2_s]
    rw [hstart]
    have hnext : ∀ M3 : Mem, f_X4_endOfCommand_85 (f_X4_endOfCommand_2 f) M3 (iZ s) (iZ k) = f_X4_endOfCommand_2 f M3 (iZ s) (iZ ((k + 1 : Nat) : Int)) := fun M3 => by
      unfold f_X4_endOfCommand_85
      rw [zc_1, z_add]; rfl
    generalize hW : wk (hx T m) (cst k) s = r at *
    obtain ⟨pos, ok, args⟩ := r
    simp only at hr p3 p4 ⊢
    cases ok with
    | false =>
      rw [if_neg Bool.false_ne_true] at p3
      rw [if_neg Bool.false_ne_true, if_pos (by decide), hnext]
      have hec : ec (hx T m) m s (n + 1) k fur = ec (hx T m) m s n (k + 1) (max fur pos) := by
        rw [ec, hW, if_neg (fun h => Bool.noConfusion h.1)]
      rw [hec]
      obtain ⟨M2, q1, q2, q3, q4, q5⟩ := ih f M1 (k + 1) (max fur pos) (by omega) (by omega) hT1 h41 p3 (by omega) (by omega)
      exact ⟨M2, q1, p2.c.tr q2, q3, q4, q5⟩
    | true =>
      rw [if_pos rfl] at p3
      rw [if_pos rfl, if_neg (show ¬ (iZ pos = (-1 : Int32)) by rw [zc_m1]; exact ne_z (by omega) (by omega) (by omega)), p3, z_max (by omega) (by omega), nm_s]
      have hcl : cnt < 10 := by
        obtain h | h := hc
        · exact h
        · have := h k hkk
          rw [hW] at this
          cases this
      have w3 : ∀ d l j, ¬ (d = 13 ∧ j = 5) → mu M1 13 0 5 (iZ (max fur pos)) d l j = M1 d l j := fun d l j hd => mu_miss _ _ (by omega)
      have hT3 : CT (mu M1 13 0 5 (iZ (max fur pos))) m T := hT1.of (w3 13 0 1 (by omega)) (fun k => w3 14 0 k (by omega))
      rw [w3 13 0 4 (by omega), h41, if_neg (show ¬ ((10 : Int32) ≤ iZ cnt) by rw [zc_10, z_le (by omega) (by omega) (by omega) (by omega)]; omega), hT3.2.2.1]
      have h63 : f_X4_endOfCommand_63 (mu M1 13 0 5 (iZ (max fur pos))) (iZ k) (iZ pos) = some (iZ pos, mu (mu (mu M1 13 0 5 (iZ (max fur pos))) 15 0 cnt.toNat (iZ k)) 13 0 4 (iZ (cnt + 1))) := by
        unfold f_X4_endOfCommand_63
        rw [w3 13 0 4 (by omega), h41, if_pos (of_eq_true (z_vin c0 (by omega) (by omega))), z_ix (by omega) (by omega), nm_s, mu_miss _ _ (by omega), w3 13 0 4 (by omega), h41, zc_1, z_add, nm_s]
      have hgood : ∀ (h : gE (hx T m) m pos), ∃ M2, some (iZ pos, mu (mu (mu M1 13 0 5 (iZ (max fur pos))) 15 0 cnt.toNat (iZ k)) 13 0 4 (iZ (cnt + 1))) = some (iZ (ecP (hx T m) s (ec (hx T m) m s (n + 1) k fur).1), M2) ∧ Fc cnt M M2 ∧ M2 13 0 5 = iZ (ec (hx T m) m s (n + 1) k fur).2 ∧
          ((ec (hx T m) m s (n + 1) k fur).1 = none → M2 13 0 4 = iZ cnt) ∧ ∀ j, (ec (hx T m) m s (n + 1) k fur).1 = some j → cnt < 10 ∧ M2 13 0 4 = iZ (cnt + 1) ∧ M2 15 0 cnt.toNat = iZ j ∧ ∀ i, i < (wk (hx T m) (cst j) s).2.2.length → M2 17 cnt.toNat i = iZ ((wk (hx T m) (cst j) s).2.2.getD i 0) := fun h => by
        have hec : ec (hx T m) m s (n + 1) k fur = (some k, max fur pos) := by
          rw [ec, hW, if_pos ⟨rfl, h⟩]
        rw [hec]
        refine ⟨mu (mu (mu M1 13 0 5 (iZ (max fur pos))) 15 0 cnt.toNat (iZ k)) 13 0 4 (iZ (cnt + 1)), ?_, fun d l j h1 h2 h3 => ?_, ?_, fun h => (by cases h), fun j hj => ?_⟩
        · show some (iZ pos, _) = some (iZ (wk (hx T m) (cst k) s).1, _)
          rw [hW]
        · rw [mu_miss _ _ (by omega), mu_miss _ _ (by omega), w3 d l j (by omega), p2 d l j (by omega) h3]
        · rw [mu_miss _ _ (by omega), mu_miss _ _ (by omega), mu_hit]
        · obtain rfl : k = j := Option.some.inj hj
          rw [hW]
          refine ⟨hcl, mu_hit _ _ _ _ _, by rw [mu_miss _ _ (by omega), mu_hit], fun i hi => ?_⟩
          rw [mu_miss _ _ (by omega), mu_miss _ _ (by omega), w3 17 _ _ (by omega)]
          exact p4 hcl rfl i hi
      by_cases hpm : pos = m
      · rw [if_pos (show iZ pos = iZ m by rw [hpm]), h63]
        exact hgood (.inl hpm)
      · obtain ⟨t0, t1, t2⟩ := hT3.2.2.2 pos (by omega) (by omega)
        rw [if_neg (ne_z (by omega) (by omega) hpm), if_pos (of_eq_true (z_vin (by omega) (by omega) (by omega))), z_ix (by omega) (by omega), t2]
        by_cases h59 : T pos = 59
        · rw [if_pos (show iZ (T pos) = (59 : Int32) by rw [h59]; rfl), h63]
          exact hgood (.inr (by rw [hx_t (by omega) (by omega)]; exact h59))
        · rw [if_neg (show ¬ (iZ (T pos) = (59 : Int32)) by rw [show (59 : Int32) = iZ 59 from rfl]; exact ne_z (by omega) (by omega) h59), hnext]
          have hec : ec (hx T m) m s (n + 1) k fur = ec (hx T m) m s n (k + 1) (max fur pos) := by
            rw [ec, hW, if_neg (fun h => by
              obtain ⟨-, h | h⟩ := h
              · exact hpm h
              · have h' : hx T m pos = 59 := h
                rw [hx_t (by omega) (by omega)] at h'
                exact h59 h')]
          rw [hec]
          obtain ⟨M2, q1, q2, q3, q4, q5⟩ := ih f (mu M1 13 0 5 (iZ (max fur pos))) (k + 1) (max fur pos) (by omega) (by omega) hT3 (by rw [w3 13 0 4 (by omega)]; exact h41) (mu_hit _ _ _ _ _) (by omega) (by omega)
          exact ⟨M2, q1, (p2.c.tr (fun d l j h1 h2 h3 => w3 d l j (by omega))).tr q2, q3, q4, q5⟩
/-- the program: none, or where it fails; the commands -/
def PR (x : Int → Int) (m : Int) : Nat → Int → List (Nat × List Int) → Option Int × List (Nat × List Int)
  | 0, s, cs => (some s, cs)
  | n + 1, s, cs => if (rc x s).2.1 = true ∧ gE x m (rc x s).1 then (if (rc x s).1 = m then (none, cs ++ [(rk x s, (rc x s).2.2)]) else PR x m n ((rc x s).1 + 1) (cs ++ [(rk x s, (rc x s).2.2)])) else (some (rc x s).1, cs)
/-- the class holds the commands -/
def HC (M : Mem) (cs : List (Nat × List Int)) : Prop := ∀ c, c < cs.length → M 15 0 c = iZ (cs.getD c (0, [])).1 ∧ ∀ j, j < (cs.getD c (0, [])).2.length → M 17 c j = iZ ((cs.getD c (0, [])).2.getD j 0)
theorem gDc_l {l l2 : List (Nat × List Int)} {j : Nat} (h : j < l.length) : (l ++ l2).getD j (0, []) = l.getD j (0, []) := by
  rw [List.getD_eq_getElem?_getD, List.getD_eq_getElem?_getD, List.getElem?_append_left h]
theorem gDc_r {l : List (Nat × List Int)} (c : Nat × List Int) : (l ++ [c]).getD l.length (0, []) = c := by
  rw [List.getD_eq_getElem?_getD, List.getElem?_append_right (Nat.le_refl _), Nat.sub_self]; rfl
theorem rk_in (x : Int → Int) (s : Int) : rk x s < 11 := by
  have := (bw_in x s).1
  unfold rk
  split <;> omega
def Fq (M M2 : Mem) : Prop := ∀ d i k, ¬ (d = 13 ∧ (k = 4 ∨ k = 5)) → d ≠ 15 → d ≠ 17 → M2 d i k = M d i k
theorem g_parse_14 {T : Int → Int} {m : Int} : ∀ (n f : Nat) (M : Mem) (s fur : Int) (cs : List (Nat × List Int)), cs.length + n = 11 → n < f → 6 * (cs.length : Int) ≤ s → s ≤ m → CT M m T → M 13 0 4 = iZ cs.length → M 13 0 5 = iZ fur → 0 ≤ fur → fur ≤ s → HC M cs →
    ∃ M2, f_X4_parse_14 f M (iZ s) (iZ cs.length) = some (iZ (if (PR (hx T m) m n s cs).1 = none then 1 else 0), M2) ∧ Fq M M2 ∧ (∀ e, (PR (hx T m) m n s cs).1 = some e → M2 13 0 5 = iZ e) ∧ ((PR (hx T m) m n s cs).1 = none → M2 13 0 4 = iZ (PR (hx T m) m n s cs).2.length ∧ HC M2 (PR (hx T m) m n s cs).2 ∧ (PR (hx T m) m n s cs).2.length ≤ 10) := by
  intro n
  induction n with
  | zero =>
    intro f M s fur cs h1 hf h2 h3 hT h4 h5 f0 f1 hC
    have := hT.2.1
    omega
  | succ n ih =>
    intro f M s fur cs h1 hf h2 h3 hT h4 h5 f0 f1 hC
    obtain ⟨f, rfl⟩ : ∃ g, f = g + 1 := ⟨f - 1, by omega⟩
    have hm1 := hT.2.1
    have s0 : 0 ≤ s := by omega
    obtain ⟨e1, e2, e3, e4⟩ := ec_rc (T := T) s0 h3 f1
    have hcc : (cs.length : Int) < 10 ∨ ∀ k, k < 11 → (wk (hx T m) (cst k) s).2.1 = false := by
      by_cases c : cs.length < 10
      · exact .inl (by omega)
      · refine .inr (fun k hk => ?_)
        have hsm : s = m := by omega
        by_cases e : k = 10
        · subst e
          rw [wk_cst10, if_neg (fun hc => by
            have := lkL_at (x := hx T m) (wd 9) s 0 (by have := wd_len 9 (by omega); show ((0 : Nat) : Int) < lk (hx T m) s 9; omega)
            rw [hx_f (by omega)] at this
            exact absurd this (by decide))]
        · rw [wk_cst s (by omega), if_neg (fun hc => by
            have := lkL_at (x := hx T m) (wd k) s 0 (by have := wd_len k (by omega); show ((0 : Nat) : Int) < lk (hx T m) s k; omega)
            rw [hx_f (by omega)] at this
            have h0 : ∀ k, k < 10 → -1 ≠ (wd k).getD 0 0 := by decide +kernel
            exact h0 k (by omega) this)]
    obtain ⟨M1, p1, p2, p3, p4, p5⟩ := g_cmd_2 (T := T) (m := m) (cnt := cs.length) (by omega) (by omega) s0 h3 hcc 11 FU M 0 fur (by omega) (by unfold FU; omega) hT h4 h5 f0 (by omega)
    have p1 : f_X4_endOfCommand M (iZ s) = _ := p1
    have hFq : Fq M M1 := fun d i k a1 a2 a3 => p2 d i k a1 (fun h => a2 h.1) (fun h => a3 h.1)
    have hT1 : CT M1 m T := hT.of (hFq 13 0 1 (by omega) (by omega) (by omega)) (fun k => hFq 14 0 k (by omega) (by omega) (by omega))
    have hstart : f_X4_parse_14 (f + 1) M (iZ s) (iZ cs.length) = bd2 (f_X4_endOfCommand M (iZ s)) fun r11 M10 => (if r11 = (-1 : Int32) then some ((0 : Int32), M10) else (if r11 = (M10 13 0 1) then some ((1 : Int32), M10) else f_X4_parse_14 f M10 (r11 + (1 : Int32)) (iZ cs.length + (1 : Int32)))) := by
      show (if (10 : Int32) < iZ cs.length then _ else _) = _
      rw [if_neg (show ¬ ((10 : Int32) < iZ cs.length) by rw [zc_10, z_lt (by omega) (by omega) (by omega) (by omega)]; omega)]
    rw [hstart, p1, bd2_s]
    by_cases hg : (rc (hx T m) s).2.1 = true ∧ gE (hx T m) m (rc (hx T m) s).1
    · obtain ⟨g1, g2⟩ := e2 hg
      rw [if_pos hg] at e1
      obtain ⟨u1, u2, u3, u4⟩ := p5 (rk (hx T m) s) (by rw [e1])
      rw [show (ec (hx T m) m s 11 0 fur).1 = some (rk (hx T m) s) by rw [e1], ecP_s]
      rw [g1] at u4 ⊢
      rw [if_neg (show ¬ (iZ (rc (hx T m) s).1 = (-1 : Int32)) by rw [zc_m1]; exact ne_z (by omega) (by omega) (by omega)), hT1.2.2.1]
      have hC1 : HC M1 (cs ++ [(rk (hx T m) s, (rc (hx T m) s).2.2)]) := fun c hc => by
        rw [List.length_append, List.length_singleton] at hc
        by_cases e : c = cs.length
        · subst e
          rw [gDc_r]
          rw [Int.toNat_natCast] at u3 u4
          exact ⟨u3, u4⟩
        · rw [gDc_l (by omega), p2 15 0 c (by omega) (by rw [Int.toNat_natCast]; omega) (by omega)]
          refine ⟨(hC c (by omega)).1, fun j hj => ?_⟩
          rw [p2 17 c j (by omega) (by omega) (by rw [Int.toNat_natCast]; omega)]
          exact (hC c (by omega)).2 j hj
      have hln : ((cs ++ [(rk (hx T m) s, (rc (hx T m) s).2.2)]).length : Int) = cs.length + 1 := by rw [List.length_append, List.length_singleton]; rfl
      by_cases hm : (rc (hx T m) s).1 = m
      · have hPR : PR (hx T m) m (n + 1) s cs = (none, cs ++ [(rk (hx T m) s, (rc (hx T m) s).2.2)]) := by rw [PR, if_pos hg, if_pos hm]
        rw [hPR, if_pos (show iZ (rc (hx T m) s).1 = iZ m by rw [hm])]
        refine ⟨M1, by rw [if_pos rfl]; rfl, hFq, fun e h => (by cases h), fun _ => ⟨?_, hC1, ?_⟩⟩
        · show M1 13 0 4 = iZ ((cs ++ [(rk (hx T m) s, (rc (hx T m) s).2.2)]).length : Int)
          rw [hln]; exact u2
        · show (cs ++ [(rk (hx T m) s, (rc (hx T m) s).2.2)]).length ≤ 10
          omega
      · have hPR : PR (hx T m) m (n + 1) s cs = PR (hx T m) m n ((rc (hx T m) s).1 + 1) (cs ++ [(rk (hx T m) s, (rc (hx T m) s).2.2)]) := by rw [PR, if_pos hg, if_neg hm]
        rw [hPR, if_neg (ne_z (by omega) (by omega) hm), zc_1, z_add, z_add, ← hln]
        have h5' : M1 13 0 5 = iZ (rc (hx T m) s).1 := by rw [p3, e1]
        obtain ⟨M2, q1, q2, q3, q4⟩ := ih f M1 ((rc (hx T m) s).1 + 1) (rc (hx T m) s).1 (cs ++ [(rk (hx T m) s, (rc (hx T m) s).2.2)]) (by omega) (by omega) (by omega) (by omega) hT1 (by rw [hln]; exact u2) h5' (by omega) (by omega) hC1
        exact ⟨M2, q1, fun d i k a1 a2 a3 => by rw [q2 d i k a1 a2 a3, hFq d i k a1 a2 a3], q3, q4⟩
    · rw [if_neg hg] at e1
      have hPR : PR (hx T m) m (n + 1) s cs = (some (rc (hx T m) s).1, cs) := by rw [PR, if_neg hg]
      rw [show (ec (hx T m) m s 11 0 fur).1 = none by rw [e1], ecP_n, if_pos (by decide : iZ (-1) = (-1 : Int32)), hPR]
      refine ⟨M1, by rw [if_neg (by intro h; cases h)]; rfl, hFq, fun e h => ?_, fun h => (by cases h)⟩
      obtain rfl := Option.some.inj h
      rw [p3, e1]
