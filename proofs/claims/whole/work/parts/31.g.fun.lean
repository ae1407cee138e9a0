/-! words -/
def bgN (k : Nat) : Nat := [0, 5, 10, 16, 21, 26, 31, 37, 44, 52, 57].getD k 0
theorem bg_ok : ∀ k, k < 11 → begF k = iZ (bgN k) ∧ bgN k ≤ 57 := by decide +kernel
theorem bg_len : ∀ k, k < 10 → bgN (k + 1) = bgN k + (wd k).length := by decide +kernel
theorem lt_ok : ∀ k, k < 10 → ∀ n, n < (wd k).length → letF (bgN k + n) = iZ ((wd k).getD n 0) ∧ bgN k + n < 57 ∧ 32 ≤ (wd k).getD n 0 ∧ (wd k).getD n 0 ≤ 126 := by decide +kernel
theorem r_like_18 {M : Mem} {m : Int} {T : Int → Int} (h : RT M m T) {p : Int} (hp : M 20 0 20 = iZ p) (p0 : 0 ≤ p) (p1 : p ≤ m) {k : Nat} (hk : k < 10) : ∀ (L : List Int) (n f : Nat), (wd k).drop n = L → n + L.length = (wd k).length → L.length < f → f_X8_likeness_18 M f (iZ k) (iZ n) (iZ (wd k).length) = some (iZ (n + lkL (hx T m) L (p + n))) := by
  obtain ⟨m0, m1, h1, h2, h3, h4⟩ := h
  have hb := bg_ok k (by omega)
  have hl := wd_len k hk
  intro L
  induction L with
  | nil =>
    intro n f hd hn hf
    obtain ⟨f, rfl⟩ : ∃ g, f = g + 1 := ⟨f - 1, by omega⟩
    have hn : n = (wd k).length := hn
    show (if iZ (wd k).length ≤ iZ n then _ else _) = _
    rw [if_pos (show iZ (wd k).length ≤ iZ n by rw [z_le (by omega) (by omega) (by omega) (by omega)]; omega)]
    unfold lkL
    rw [Int.add_zero]
  | cons c L ih =>
    intro n f hd hn hf
    obtain ⟨f, rfl⟩ : ∃ g, f = g + 1 := ⟨f - 1, by omega⟩
    rw [List.length_cons] at hn hf
    have hc : (wd k).getD n 0 = c := by
      have := congrArg (fun l => l.getD 0 0) hd
      simpa [List.getD_eq_getElem?_getD] using this
    have hd2 : (wd k).drop (n + 1) = L := by rw [← List.tail_drop, hd]; rfl
    obtain ⟨e1, e2, e3, e4⟩ := lt_ok k hk n (by omega)
    rw [hc] at e1 e3 e4
    have hstart : f_X8_likeness_18 M (f + 1) (iZ k) (iZ n) (iZ (wd k).length) = (if (M 20 0 21) ≤ ((M 20 0 20) + iZ n) then some (iZ n) else if vin ((M 20 0 20) + iZ n) 60 then (if vin (iZ k) 11 then (if vin ((M 31 0 (ix (iZ k))) + iZ n) 57 then ((if (M 26 0 (ix ((M 20 0 20) + iZ n))) = (M 30 0 (ix ((M 31 0 (ix (iZ k))) + iZ n))) then f_X8_likeness_18 M f (iZ k) (iZ n + (1 : Int32)) (iZ (wd k).length) else some (iZ n))) else none) else none) else none) := by
      show (if iZ (wd k).length ≤ iZ n then _ else _) = _
      rw [if_neg (show ¬ (iZ (wd k).length ≤ iZ n) by rw [z_le (by omega) (by omega) (by omega) (by omega)]; omega)]
    rw [hstart, h1, hp, z_add]
    unfold lkL
    by_cases hm : p + n < m
    · obtain ⟨t0, t1, t2⟩ := h2 (p + n) (by omega) hm
      rw [hx_t (by omega) hm, if_neg (show ¬ (iZ m ≤ iZ (p + n)) by rw [z_le (by omega) (by omega) (by omega) (by omega)]; omega), if_pos (of_eq_true (z_vin (by omega) (by omega) (by omega))), show ix (iZ (p + n)) = (p + n).toNat from z_ix (by omega) (by omega), t2, if_pos (of_eq_true (z_vin (by omega) (by omega) (by omega))), show ix (iZ (k : Int)) = k by rw [z_ix (by omega) (by omega), Int.toNat_natCast], h4, hb.1, z_add, if_pos (of_eq_true (z_vin (by omega) (by omega) (by omega))), z_ix (by omega) (by omega), h3, show ((bgN k : Int) + (n : Int)).toNat = bgN k + n by omega, e1]
      by_cases e : T (p + n) = c
      · rw [if_pos e, if_pos (show iZ (T (p + n)) = iZ c by rw [e]), zc_1, z_add]
        have := ih (n + 1) f hd2 (by omega) (by omega)
        rw [show ((n + 1 : Nat) : Int) = (n : Int) + 1 from rfl] at this
        rw [this, show p + ((n : Int) + 1) = p + n + 1 by omega, show (n : Int) + 1 + lkL (hx T m) L (p + n + 1) = n + (1 + lkL (hx T m) L (p + n + 1)) by omega]
      · rw [if_neg e, if_neg (ne_z (by omega) (by omega) e), Int.add_zero]
    · rw [hx_f (by omega), if_pos (show iZ m ≤ iZ (p + n) by rw [z_le (by omega) (by omega) (by omega) (by omega)]; omega), if_neg (by omega), Int.add_zero]
theorem r_like {M : Mem} {m : Int} {T : Int → Int} (h : RT M m T) {p : Int} (hp : M 20 0 20 = iZ p) (p0 : 0 ≤ p) (p1 : p ≤ m) {k : Nat} (hk : k < 10) : f_X8_likeness M (iZ k) = some (iZ (lk (hx T m) p k)) := by
  have hl := wd_len k hk
  have hb := bg_ok k (by omega)
  have hb2 := bg_ok (k + 1) (by omega)
  have hbl := bg_len k hk
  have h4 := h.2.2.2.2.2
  unfold f_X8_likeness
  rw [zc_1, z_add, if_pos (of_eq_true (z_vin (by omega) (by omega) (by omega))), if_pos (of_eq_true (z_vin (by omega) (by omega) (by omega))), z_ix (by omega) (by omega), z_ix (by omega) (by omega), Int.toNat_natCast, show ((k : Int) + 1).toNat = k + 1 by omega, h4, h4, hb.1, hb2.1, z_sub, show ((bgN (k + 1) : Nat) : Int) - (bgN k : Int) = ((wd k).length : Int) by omega, zc_0]
  have := r_like_18 h hp p0 p1 hk (wd k) 0 FU rfl (by omega) (by unfold FU; omega)
  rw [show iZ ((0 : Nat) : Int) = iZ 0 from rfl, show ((0 : Nat) : Int) + lkL (hx T m) (wd k) (p + ((0 : Nat) : Int)) = lkL (hx T m) (wd k) p by rw [show p + ((0 : Nat) : Int) = p by omega]; omega] at this
  exact this
def Fb (to : Nat) (M M2 : Mem) : Prop := ∀ d i k, ¬ (d = 20 ∧ (k = 19 ∨ k = 20 ∨ k = 22)) → ¬ (d = 32 ∧ to ≤ k) → M2 d i k = M d i k
/-- the reference holds a command -/
def Hc1 (M : Mem) (k : Nat) (args : List Int) (to : Nat) : Prop := if k = 10 then M 32 0 to = iZ 9 ∧ M 32 0 (to + 1) = iZ 1 else M 32 0 to = iZ k ∧ ∀ j, j < args.length → M 32 0 (to + 1 + j) = iZ (args.getD j 0)
theorem r_cmd_11 {M : Mem} {m : Int} {T : Int → Int} (h : RT M m T) {s : Int} (hp : M 20 0 20 = iZ s) (p0 : 0 ≤ s) (p1 : s ≤ m) (to : Int32) : ∀ (n f k w : Nat), k + n = 10 → w < k → n < f → f_X8_readCommand_11 f M to (iZ w) (iZ k) = f_X8_readCommand_11 (f - n) M to (iZ (am (hx T m) s n k w)) (iZ 10) := by
  intro n
  induction n with
  | zero =>
    intro f k w hk hw hf
    obtain rfl : k = 10 := by omega
    rfl
  | succ n ih =>
    intro f k w hk hw hf
    obtain ⟨f, rfl⟩ : ∃ g, f = g + 1 := ⟨f - 1, by omega⟩
    have l1 := r_like h hp p0 p1 (k := k) (by omega)
    have l2 := r_like h hp p0 p1 (k := w) (by omega)
    have b1 : 0 ≤ lk (hx T m) s k ∧ lk (hx T m) s k ≤ (wd k).length := lkL_in (wd k) s
    have b2 : 0 ≤ lk (hx T m) s w ∧ lk (hx T m) s w ≤ (wd w).length := lkL_in (wd w) s
    have c1 := wd_len k (by omega)
    have c2 := wd_len w (by omega)
    have hstart : f_X8_readCommand_11 (f + 1) M to (iZ w) (iZ k) = (if iZ (lk (hx T m) s k) ≤ iZ (lk (hx T m) s w) then f_X8_readCommand_35 (f_X8_readCommand_11 f) M to (iZ k) (iZ w) else f_X8_readCommand_35 (f_X8_readCommand_11 f) M to (iZ k) (iZ k)) := by
      show (if (10 : Int32) ≤ iZ k then _ else _) = _
      rw [if_neg (show ¬ ((10 : Int32) ≤ iZ k) by rw [zc_10, z_le (by omega) (by omega) (by omega) (by omega)]; omega), bdq l1, bdq l2]
    rw [hstart]
    unfold f_X8_readCommand_35 am
    rw [show f + 1 - (n + 1) = f - n by omega]
    by_cases c : lk (hx T m) s w < lk (hx T m) s k
    · rw [if_neg (show ¬ (iZ (lk (hx T m) s k) ≤ iZ (lk (hx T m) s w)) by rw [z_le (by omega) (by omega) (by omega) (by omega)]; omega), if_pos c, zc_1, z_add]
      exact ih f (k + 1) k (by omega) (by omega) (by omega)
    · rw [if_pos (show iZ (lk (hx T m) s k) ≤ iZ (lk (hx T m) s w) by rw [z_le (by omega) (by omega) (by omega) (by omega)]; omega), if_neg c, zc_1, z_add]
      exact ih f (k + 1) w (by omega) (by omega) (by omega)
theorem r_cmd {M : Mem} {m : Int} {T : Int → Int} (h : RT M m T) {s : Int} (hp : M 20 0 20 = iZ s) (p0 : 0 ≤ s) (p1 : s ≤ m) {cnt : Nat} (hc : M 20 0 19 = iZ cnt) (c10 : cnt ≤ 10) : ∃ M2, f_X8_readCommand M = some M2 ∧ St M2 ((rc (hx T m) s).1, (rc (hx T m) s).2.1) ∧ Fb (5 * cnt) M M2 ∧ ((rc (hx T m) s).2.1 = true → M2 20 0 19 = iZ (cnt + 1) ∧ Hc1 M2 (rk (hx T m) s) (rc (hx T m) s).2.2 (5 * cnt)) := by
  obtain ⟨w1, w2⟩ := bw_in (hx T m) s
  have h0 := r_cmd_11 h hp p0 p1 (iZ (5 * cnt)) 9 FU 1 0 (by omega) (by omega) (by unfold FU; omega)
  have hrc : f_X8_readCommand M = f_X8_readCommand_11 (FU - 9) M (iZ (5 * cnt)) (iZ (bw (hx T m) s)) (iZ 10) := by
    refine Eq.trans ?_ h0
    unfold f_X8_readCommand
    rw [hc, zc_5, z_mul]; rfl
  have hlike := r_like h hp p0 p1 w1
  have hlb : 0 ≤ lk (hx T m) s (bw (hx T m) s) ∧ lk (hx T m) s (bw (hx T m) s) ≤ (wd (bw (hx T m) s)).length := lkL_in (wd (bw (hx T m) s)) s
  have hwl := wd_len _ w1
  have hb := bg_ok (bw (hx T m) s) (by omega)
  have hb2 := bg_ok (bw (hx T m) s + 1) (by omega)
  have hbl := bg_len _ w1
  unfold rc rk
  generalize hw : bw (hx T m) s = w at *
  have h31 : ∀ k, mu M 20 0 20 (iZ (s + lk (hx T m) s w)) 31 0 k = begF k := fun k => by rw [mu_miss _ _ (by omega)]; exact h.2.2.2.2.2 k
  have hstart : f_X8_readCommand M = (if iZ (wd w).length ≤ iZ (lk (hx T m) s w) then f_X8_readCommand_83 (mu M 20 0 20 (iZ (s + lk (hx T m) s w))) (iZ (5 * cnt)) (iZ w) (0 : Int32) else f_X8_readCommand_83 (mu M 20 0 20 (iZ (s + lk (hx T m) s w))) (iZ (5 * cnt)) (iZ w) (1 : Int32)) := by
    rw [hrc, show FU - 9 = 4990 + 1 from rfl]
    show (if (10 : Int32) ≤ iZ 10 then _ else _) = _
    rw [if_pos (by decide), bdq hlike, hp, z_add, nm_s, zc_1, z_add, if_pos (of_eq_true (z_vin (by omega) (by omega) (by omega))), if_pos (of_eq_true (z_vin (by omega) (by omega) (by omega))), z_ix (by omega) (by omega), z_ix (by omega) (by omega), Int.toNat_natCast, show ((w : Int) + 1).toNat = w + 1 by omega, h31, h31, hb.1, hb2.1, z_sub, show ((bgN (w + 1) : Nat) : Int) - (bgN w : Int) = ((wd w).length : Int) by omega]
  rw [hstart]
  unfold f_X8_readCommand_83
  by_cases c : lk (hx T m) s w = (wd w).length
  · rw [if_pos c, if_pos (show iZ (wd w).length ≤ iZ (lk (hx T m) s w) by rw [z_le (by omega) (by omega) (by omega) (by omega)]; omega), if_pos (by decide), nm_s, mu_hit, if_pos rfl, if_pos (of_eq_true (z_vin (by omega) (by omega) (by omega))), z_ix (by omega) (by omega), show (5 * (cnt : Int)).toNat = 5 * cnt by omega, nm_s]
    rw [show mu (mu (mu M 20 0 20 (iZ (s + lk (hx T m) s w))) 20 0 22 (0 : Int32)) 32 0 (5 * cnt) (iZ w) 20 0 19 = iZ cnt by rw [mu_miss _ _ (by omega), mu_miss _ _ (by omega), mu_miss _ _ (by omega)]; exact hc, zc_1, z_add, z_add, nm_s]
    generalize hM1 : mu (mu (mu (mu M 20 0 20 (iZ (s + lk (hx T m) s w))) 20 0 22 (0 : Int32)) 32 0 (5 * cnt) (iZ w)) 20 0 19 (iZ (cnt + 1)) = M1
    have hF : Fb (5 * cnt) M M1 := fun d i k h1 h2 => by rw [← hM1, mu_miss _ _ (by omega), mu_miss _ _ (by omega), mu_miss _ _ (by omega), mu_miss _ _ (by omega)]
    have hT1 : RT M1 m T := h.of (fun d i k hd => hF d i k (by omega) (by omega))
    have hpm : s + (wd w).length ≤ m := by
      have := lkL_at (x := hx T m) (wd w) s ((wd w).length - 1) (by show _ < lk (hx T m) s w; omega)
      refine Classical.byContradiction fun hn => ?_
      rw [hx_f (by omega)] at this
      have h5 : ∀ k, k < 10 → 0 ≤ (wd k).getD ((wd k).length - 1) 0 := by decide +kernel
      have := h5 w w1
      omega
    have hS1 : St M1 (s + (wd w).length, true) := by
      rw [← c, ← hM1]
      exact ⟨by rw [mu_miss _ _ (by omega), mu_miss _ _ (by omega), mu_miss _ _ (by omega), mu_hit], by rw [mu_miss _ _ (by omega), mu_miss _ _ (by omega), mu_hit]; rfl⟩
    obtain ⟨M2, q1, q2, q3, q4⟩ := r_args hT1 hS1 (by omega) hpm w1 (to := 5 * cnt + 1) (by omega)
    rw [show ((5 * cnt + 1 : Nat) : Int) = 5 * (cnt : Int) + 1 by omega] at q1
    have hrA : rA (hx T m) w (s + (wd w).length) = (if w = 9 ∧ hx T m (s + 5) ≠ 32 then (s + 5, true, []) else wk (hx T m) (rs w) (s + (wd w).length)) := by
      unfold rA
      by_cases e9 : w = 9
      · subst e9; rw [wd9_len]
      · rw [if_neg (fun hc => e9 hc.1), if_neg (fun hc => e9 hc.1)]
    refine ⟨M2, by rw [bdq q1], by rw [← hrA]; exact q2, fun d i k h1 h2 => by rw [q3 d i k (by omega) (by omega), hF d i k h1 h2], fun hok => ⟨?_, ?_⟩⟩
    · rw [q3 20 0 19 (by omega) (by omega), ← hM1, mu_hit]
    · have h32 : M2 32 0 (5 * cnt) = iZ w := by rw [q3 32 0 _ (by omega) (by omega), ← hM1, mu_miss _ _ (by omega), mu_hit]
      unfold Hc1
      rw [← hrA] at hok ⊢
      by_cases e : w = 9 ∧ hx T m (s + 5) ≠ 32
      · rw [if_pos e, if_pos rfl]
        obtain ⟨rfl, e2⟩ := e
        refine ⟨h32, q4.2 ⟨rfl, by rw [wd9_len]; exact e2⟩⟩
      · rw [if_neg e, if_neg (by omega)]
        exact ⟨h32, q4.1 hok⟩
  · rw [if_neg c, if_neg (show ¬ (iZ (wd w).length ≤ iZ (lk (hx T m) s w)) by rw [z_le (by omega) (by omega) (by omega) (by omega)]; omega), if_pos (by decide), nm_s, mu_hit, if_neg (by decide)]
    refine ⟨_, rfl, ⟨by rw [mu_miss _ _ (by omega), mu_hit], by rw [mu_hit]; rfl⟩, fun d i k h1 h2 => by rw [mu_miss _ _ (by omega), mu_miss _ _ (by omega)], fun hok => Bool.noConfusion hok⟩
