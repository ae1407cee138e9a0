/-! The reference's parser: signs, numbers, arguments. -/
def RT (M : Mem) (m : Int) (T : Int → Int) : Prop := 0 ≤ m ∧ m ≤ 60 ∧ M 20 0 21 = iZ m ∧ (∀ j, 0 ≤ j → j < m → 32 ≤ T j ∧ T j ≤ 126 ∧ M 26 0 j.toNat = iZ (T j)) ∧ (∀ k, M 30 0 k = letF k) ∧ ∀ k, M 31 0 k = begF k
/-- where it reads, whether all fitted so far -/
def St (M : Mem) (st : Int × Bool) : Prop := M 20 0 20 = iZ st.1 ∧ M 20 0 22 = iZ (if st.2 then 0 else 1)
def Fa (to : Nat) (M M2 : Mem) : Prop := ∀ d i k, ¬ (d = 20 ∧ (k = 20 ∨ k = 22)) → ¬ (d = 32 ∧ to ≤ k) → M2 d i k = M d i k
theorem Fa.tr {to : Nat} {M M2 M3 : Mem} (h : Fa to M M2) (h2 : Fa to M2 M3) : Fa to M M3 := fun d i k a b => (h2 d i k a b).trans (h d i k a b)
theorem Fa.mono {to t2 : Nat} {M M2 : Mem} (h : Fa t2 M M2) (hl : to ≤ t2) : Fa to M M2 := fun d i k a b => h d i k a (by omega)
theorem RT.of {M M2 : Mem} {m : Int} {T : Int → Int} (h : RT M m T) (hF : ∀ d i k, (d = 20 ∧ k = 21) ∨ d = 26 ∨ d = 30 ∨ d = 31 → M2 d i k = M d i k) : RT M2 m T := by
  obtain ⟨a, b, c, d, e, f⟩ := h
  exact ⟨a, b, by rw [hF 20 0 21 (by omega)]; exact c, fun j j0 j1 => by rw [hF 26 0 _ (by omega)]; exact d j j0 j1, fun k => by rw [hF 30 0 k (by omega)]; exact e k, fun k => by rw [hF 31 0 k (by omega)]; exact f k⟩
theorem RT.fa {M M2 : Mem} {m : Int} {T : Int → Int} {to : Nat} (h : RT M m T) (hF : Fa to M M2) : RT M2 m T := h.of (fun d i k hd => hF d i k (by omega) (by omega))
theorem hx_in {M : Mem} {m : Int} {T : Int → Int} (h : RT M m T) {p : Int} (p0 : 0 ≤ p) : -1 ≤ hx T m p ∧ hx T m p ≤ 126 := by
  by_cases c : p < m
  · rw [hx_t p0 c]
    have := h.2.2.2.1 p p0 c
    omega
  · rw [hx_f (by omega)]; omega
theorem r_here {M : Mem} {m : Int} {T : Int → Int} (h : RT M m T) {p : Int} (hp : M 20 0 20 = iZ p) (p0 : 0 ≤ p) (p1 : p ≤ m) : f_X8_here M = some (iZ (hx T m p)) := by
  obtain ⟨a, b, c, d, e, f⟩ := h
  unfold f_X8_here
  rw [c, hp]
  by_cases hc : p < m
  · obtain ⟨t0, t1, t2⟩ := d p p0 hc
    rw [hx_t p0 hc, if_neg (show ¬ (iZ m ≤ iZ p) by rw [z_le (by omega) (by omega) (by omega) (by omega)]; omega), if_pos (of_eq_true (z_vin p0 (by omega) (by omega))), z_ix (by omega) (by omega), t2]
  · rw [hx_f (by omega), if_pos (show iZ m ≤ iZ p by rw [z_le (by omega) (by omega) (by omega) (by omega)]; omega)]; rfl
theorem b01 (b : Bool) : isB (iZ (if b then 0 else 1)) := by cases b <;> decide
def pe (x : Int → Int) (c : Int) (st : Int × Bool) : Int × Bool := if st.2 = true ∧ x st.1 = c then (st.1 + 1, true) else (st.1, false)
def pd (x : Int → Int) (st : Int × Bool) : Int × Bool := if st.2 = true ∧ (48 ≤ x st.1 ∧ x st.1 ≤ 57) then (st.1 + 1, true) else (st.1, false)
def vd (x : Int → Int) (st : Int × Bool) : Int := if st.2 = true ∧ (48 ≤ x st.1 ∧ x st.1 ≤ 57) then x st.1 - 48 else 0
theorem r_exp {M : Mem} {m : Int} {T : Int → Int} (h : RT M m T) {st : Int × Bool} (hs : St M st) (p0 : 0 ≤ st.1) (p1 : st.1 ≤ m) {c : Int} (c0 : 0 ≤ c) (c1 : c ≤ 126) (to : Nat) : ∃ M2, f_X8_expects M (iZ c) = some M2 ∧ St M2 (pe (hx T m) c st) ∧ Fa to M M2 ∧ 0 ≤ (pe (hx T m) c st).1 ∧ (pe (hx T m) c st).1 ≤ m := by
  obtain ⟨p, b⟩ := st
  obtain ⟨h1, h2⟩ := hs
  have hh := r_here h h1 p0 p1
  have hb := hx_in h p0
  simp only at h1 h2 p0 p1 hh hb
  unfold f_X8_expects f_X8_expects_16 f_X8_expects_21 f_X8_expects_41
  rw [h2]
  cases b with
  | true =>
    rw [if_pos rfl, if_pos (by decide), bdq hh]
    by_cases e : hx T m p = c
    · have hpe : pe (hx T m) c (p, true) = (p + 1, true) := if_pos ⟨rfl, e⟩
      have hpm : p < m := by
        refine Classical.byContradiction fun hn => ?_
        rw [hx_f (by omega)] at e
        omega
      rw [hpe, if_pos (show iZ (hx T m p) = iZ c by rw [e]), if_pos (by decide), nm_s, mu_hit, if_pos rfl, mu_miss _ _ (by omega), h1, zc_1, z_add, nm_s]
      refine ⟨_, rfl, ⟨mu_hit _ _ _ _ _, by rw [mu_miss _ _ (by omega), mu_hit]; rfl⟩, fun d i k h3 h4 => by rw [mu_miss _ _ (by omega), mu_miss _ _ (by omega)], by show 0 ≤ p + 1; omega, by show p + 1 ≤ m; omega⟩
    · have hpe : pe (hx T m) c (p, true) = (p, false) := if_neg (fun hc => e hc.2)
      rw [hpe, if_neg (show ¬ (iZ (hx T m p) = iZ c) from ne_z (by omega) (by omega) e), if_pos (by decide), nm_s, mu_hit, if_neg (by decide), mu_miss _ _ (by omega), h1, zc_0, z_add, Int.add_zero, nm_s]
      refine ⟨_, rfl, ⟨mu_hit _ _ _ _ _, by rw [mu_miss _ _ (by omega), mu_hit]; rfl⟩, fun d i k h3 h4 => by rw [mu_miss _ _ (by omega), mu_miss _ _ (by omega)], p0, p1⟩
  | false =>
    have hpe : pe (hx T m) c (p, false) = (p, false) := if_neg (fun hc => Bool.noConfusion hc.1)
    rw [hpe, if_neg Bool.false_ne_true, if_neg (by decide), if_pos (by decide), nm_s, mu_hit, if_neg (by decide), mu_miss _ _ (by omega), h1, zc_0, z_add, Int.add_zero, nm_s]
    refine ⟨_, rfl, ⟨mu_hit _ _ _ _ _, by rw [mu_miss _ _ (by omega), mu_hit]; rfl⟩, fun d i k h3 h4 => by rw [mu_miss _ _ (by omega), mu_miss _ _ (by omega)], p0, p1⟩
theorem r_dig {M : Mem} {m : Int} {T : Int → Int} (h : RT M m T) {st : Int × Bool} (hs : St M st) (p0 : 0 ≤ st.1) (p1 : st.1 ≤ m) (to : Nat) : ∃ M2, f_X8_digit M = some (iZ (vd (hx T m) st), M2) ∧ St M2 (pd (hx T m) st) ∧ Fa to M M2 ∧ 0 ≤ (pd (hx T m) st).1 ∧ (pd (hx T m) st).1 ≤ m := by
  obtain ⟨p, b⟩ := st
  obtain ⟨h1, h2⟩ := hs
  have hh := r_here h h1 p0 p1
  have hb := hx_in h p0
  simp only at h1 h2 p0 p1 hh hb
  unfold f_X8_digit f_X8_digit_25 f_X8_digit_30 f_X8_digit_51 f_X8_digit_69
  rw [h2]
  cases b with
  | true =>
    have hin := g_X8_in M (a := hx T m p) (by omega) (by omega : i32 48) (by omega : i32 57)
    rw [← c64_48, ← c64_57] at hin
    rw [if_pos rfl, if_pos (by decide), bdq hh, bdq hin]
    by_cases e : 48 ≤ hx T m p ∧ hx T m p ≤ 57
    · have hpe : pd (hx T m) (p, true) = (p + 1, true) := if_pos ⟨rfl, e⟩
      have hve : vd (hx T m) (p, true) = hx T m p - 48 := if_pos ⟨rfl, e⟩
      have hpm : p < m := by
        refine Classical.byContradiction fun hn => ?_
        rw [hx_f (by omega)] at e
        omega
      have hh2 := r_here (M := mu M 20 0 22 (0 : Int32)) (h.of (fun d i k hd => mu_miss _ _ (by omega))) (p := p) (by rw [mu_miss _ _ (by omega)]; exact h1) p0 p1
      rw [hpe, hve, bI_t e, if_neg n10, if_pos (by decide), nm_s, mu_hit, if_pos rfl, bdq hh2, zc_48, z_sub, if_pos rfl, mu_miss _ _ (by omega), h1, zc_1, z_add, nm_s]
      refine ⟨_, rfl, ⟨mu_hit _ _ _ _ _, by rw [mu_miss _ _ (by omega), mu_hit]; rfl⟩, fun d i k h3 h4 => by rw [mu_miss _ _ (by omega), mu_miss _ _ (by omega)], by show 0 ≤ p + 1; omega, by show p + 1 ≤ m; omega⟩
    · have hpe : pd (hx T m) (p, true) = (p, false) := if_neg (fun hc => e hc.2)
      have hve : vd (hx T m) (p, true) = 0 := if_neg (fun hc => e hc.2)
      rw [hpe, hve, bI_f e, if_pos (by decide), if_pos (by decide), nm_s, mu_hit, if_neg (by decide), if_neg (by decide), mu_miss _ _ (by omega), h1, zc_0, z_add, Int.add_zero, nm_s]
      refine ⟨_, rfl, ⟨mu_hit _ _ _ _ _, by rw [mu_miss _ _ (by omega), mu_hit]; rfl⟩, fun d i k h3 h4 => by rw [mu_miss _ _ (by omega), mu_miss _ _ (by omega)], p0, p1⟩
  | false =>
    have hpe : pd (hx T m) (p, false) = (p, false) := if_neg (fun hc => Bool.noConfusion hc.1)
    have hve : vd (hx T m) (p, false) = 0 := if_neg (fun hc => Bool.noConfusion hc.1)
    rw [hpe, hve, if_neg Bool.false_ne_true, if_neg (by decide), if_pos (by decide), nm_s, mu_hit, if_neg (by decide), if_neg (by decide), mu_miss _ _ (by omega), h1, zc_0, z_add, Int.add_zero, nm_s]
    refine ⟨_, rfl, ⟨mu_hit _ _ _ _ _, by rw [mu_miss _ _ (by omega), mu_hit]; rfl⟩, fun d i k h3 h4 => by rw [mu_miss _ _ (by omega), mu_miss _ _ (by omega)], p0, p1⟩
/-- a number: one digit, up to two more -/
def pnl (x : Int → Int) : Nat → Int × Bool → Int × Bool
  | 0, st => st
  | n + 1, st => if st.2 = true ∧ (48 ≤ x st.1 ∧ x st.1 ≤ 57) then pnl x n (pd x st) else st
def vnl (x : Int → Int) : Nat → Int × Bool → Int → Int
  | 0, _, v => v
  | n + 1, st, v => if st.2 = true ∧ (48 ≤ x st.1 ∧ x st.1 ≤ 57) then vnl x n (pd x st) (10 * v + vd x st) else v
theorem r_num_7 {m : Int} {T : Int → Int} (to : Nat) : ∀ (n f : Nat) (M : Mem) (st : Int × Bool) (v i : Int), RT M m T → St M st → 0 ≤ st.1 → st.1 ≤ m → 0 ≤ i → i + n = 2 → n < f → ∃ M2, f_X8_number_7 f M (iZ v) (iZ i) = some (iZ (vnl (hx T m) n st v), M2) ∧ St M2 (pnl (hx T m) n st) ∧ Fa to M M2 ∧ 0 ≤ (pnl (hx T m) n st).1 ∧ (pnl (hx T m) n st).1 ≤ m := by
  intro n
  induction n with
  | zero =>
    intro f M st v i h hs p0 p1 i0 hi hf
    obtain ⟨f, rfl⟩ : ∃ g, f = g + 1 := ⟨f - 1, by omega⟩
    refine ⟨M, ?_, hs, fun _ _ _ _ _ => rfl, p0, p1⟩
    show (if (2 : Int32) ≤ iZ i then _ else _) = _
    rw [if_pos (show (2 : Int32) ≤ iZ i by rw [zc_2, z_le (by omega) (by omega) (by omega) (by omega)]; omega)]; rfl
  | succ n ih =>
    intro f M st v i h hs p0 p1 i0 hi hf
    obtain ⟨f, rfl⟩ : ∃ g, f = g + 1 := ⟨f - 1, by omega⟩
    have hb := hx_in h p0
    have hin := g_X8_in M (a := hx T m st.1) (by omega) (by omega : i32 48) (by omega : i32 57)
    rw [← c64_48, ← c64_57] at hin
    have hh := r_here h hs.1 p0 p1
    have hstart : f_X8_number_7 (f + 1) M (iZ v) (iZ i) = (if (M 20 0 22) = 0 then bd (f_X8_here M) fun r15 => bd (f_X8_in M r15.toInt64 (48 : Int64) (57 : Int64)) fun r17 => (if r17 = 0 then some (iZ v, M) else bd2 (f_X8_digit M) fun r20 M19 => f_X8_number_7 f M19 (((10 : Int32) * iZ v) + r20) (iZ i + (1 : Int32))) else some (iZ v, M)) := by
      show (if (2 : Int32) ≤ iZ i then _ else _) = _
      rw [if_neg (show ¬ ((2 : Int32) ≤ iZ i) by rw [zc_2, z_le (by omega) (by omega) (by omega) (by omega)]; omega)]
    rw [hstart, hs.2]
    unfold pnl vnl
    by_cases hok : st.2 = true
    · rw [if_pos hok, if_pos (by decide), bdq hh, bdq hin]
      by_cases e : 48 ≤ hx T m st.1 ∧ hx T m st.1 ≤ 57
      · have hc : st.2 = true ∧ (48 ≤ hx T m st.1 ∧ hx T m st.1 ≤ 57) := ⟨hok, e⟩
        rw [if_pos hc, if_pos hc, bI_t e, if_neg n10]
        obtain ⟨M1, q1, q2, q3, q4, q5⟩ := r_dig h hs p0 p1 to
        obtain ⟨M2, s1, s2, s3, s4⟩ := ih f M1 (pd (hx T m) st) (10 * v + vd (hx T m) st) (i + 1) (h.fa q3) q2 q4 q5 (by omega) (by omega) (by omega)
        refine ⟨M2, ?_, s2, q3.tr s3, s4⟩
        rw [q1, bd2_s, zc_10, z_mul, z_add, zc_1, z_add, s1]
      · have hc : ¬ (st.2 = true ∧ (48 ≤ hx T m st.1 ∧ hx T m st.1 ≤ 57)) := fun hc => e hc.2
        rw [if_neg hc, if_neg hc, bI_f e, if_pos (by decide)]
        exact ⟨M, rfl, hs, fun _ _ _ _ _ => rfl, p0, p1⟩
    · have hc : ¬ (st.2 = true ∧ (48 ≤ hx T m st.1 ∧ hx T m st.1 ≤ 57)) := fun hc => hok hc.1
      rw [if_neg hok, if_neg (by decide), if_neg hc, if_neg hc]
      exact ⟨M, rfl, hs, fun _ _ _ _ _ => rfl, p0, p1⟩
def pn (x : Int → Int) (st : Int × Bool) : Int × Bool := pnl x 2 (pd x st)
def vn (x : Int → Int) (st : Int × Bool) : Int := vnl x 2 (pd x st) (vd x st)
theorem r_nmb {M : Mem} {m : Int} {T : Int → Int} (h : RT M m T) {st : Int × Bool} (hs : St M st) (p0 : 0 ≤ st.1) (p1 : st.1 ≤ m) (to : Nat) : ∃ M2, f_X8_number M = some (iZ (vn (hx T m) st), M2) ∧ St M2 (pn (hx T m) st) ∧ Fa to M M2 ∧ 0 ≤ (pn (hx T m) st).1 ∧ (pn (hx T m) st).1 ≤ m := by
  obtain ⟨M1, q1, q2, q3, q4, q5⟩ := r_dig h hs p0 p1 to
  obtain ⟨M2, s1, s2, s3, s4⟩ := r_num_7 to 2 FU M1 (pd (hx T m) st) (vd (hx T m) st) 0 (h.fa q3) q2 q4 q5 (by omega) (by omega) (by unfold FU; omega)
  refine ⟨M2, ?_, s2, q3.tr s3, s4⟩
  unfold f_X8_number
  rw [q1, bd2_s, zc_0, s1]
  rfl
theorem r_digB {M : Mem} {m : Int} {T : Int → Int} (h : RT M m T) {st : Int × Bool} (hs : St M st) (p0 : 0 ≤ st.1) (p1 : st.1 ≤ m) {c : Int} (c0 : 0 ≤ c) (c1 : c ≤ 126) (to : Nat) : ∃ M2, f_X8_digitBehind M (iZ c) = some (iZ (vd (hx T m) (pe (hx T m) c st)), M2) ∧ St M2 (pd (hx T m) (pe (hx T m) c st)) ∧ Fa to M M2 ∧ 0 ≤ (pd (hx T m) (pe (hx T m) c st)).1 ∧ (pd (hx T m) (pe (hx T m) c st)).1 ≤ m := by
  obtain ⟨M1, q1, q2, q3, q4, q5⟩ := r_exp h hs p0 p1 c0 c1 to
  obtain ⟨M2, s1, s2, s3, s4⟩ := r_dig (h.fa q3) q2 q4 q5 to
  refine ⟨M2, ?_, s2, q3.tr s3, s4⟩
  unfold f_X8_digitBehind
  rw [bdq q1, s1, bd2_s]
theorem r_numB {M : Mem} {m : Int} {T : Int → Int} (h : RT M m T) {st : Int × Bool} (hs : St M st) (p0 : 0 ≤ st.1) (p1 : st.1 ≤ m) {c : Int} (c0 : 0 ≤ c) (c1 : c ≤ 126) (to : Nat) : ∃ M2, f_X8_numberBehind M (iZ c) = some (iZ (vn (hx T m) (pe (hx T m) c st)), M2) ∧ St M2 (pn (hx T m) (pe (hx T m) c st)) ∧ Fa to M M2 ∧ 0 ≤ (pn (hx T m) (pe (hx T m) c st)).1 ∧ (pn (hx T m) (pe (hx T m) c st)).1 ≤ m := by
  obtain ⟨M1, q1, q2, q3, q4, q5⟩ := r_exp h hs p0 p1 c0 c1 to
  obtain ⟨M2, s1, s2, s3, s4⟩ := r_nmb (h.fa q3) q2 q4 q5 to
  refine ⟨M2, ?_, s2, q3.tr s3, s4⟩
  unfold f_X8_numberBehind
  rw [bdq q1, s1, bd2_s]
/-- signs one by one -/
def sq (x : Int → Int) : List Int → Int × Bool → (Int × Bool) × List Int
  | [], st => (st, [])
  | c :: L, st => if c = 57 then ((sq x L (pd x st)).1, vd x st :: (sq x L (pd x st)).2) else if c = 35 then ((sq x L (pn x st)).1, vn x st :: (sq x L (pn x st)).2) else sq x L (pe x c st)
theorem pn_f (x : Int → Int) (a : Int) : pn x (a, false) = (a, false) := by
  have h : pd x (a, false) = (a, false) := if_neg (fun hc => Bool.noConfusion hc.1)
  unfold pn
  rw [h]
  exact if_neg (fun hc => Bool.noConfusion hc.1)
theorem sq_f (x : Int → Int) : ∀ (L : List Int) (a : Int), (sq x L (a, false)).1 = (a, false) := by
  intro L
  induction L with
  | nil => intro a; rfl
  | cons c L ih =>
    intro a
    unfold sq
    split
    · rw [show pd x (a, false) = (a, false) from if_neg (fun hc => Bool.noConfusion hc.1)]; exact ih a
    · split
      · rw [pn_f]; exact ih a
      · rw [show pe x c (a, false) = (a, false) from if_neg (fun hc => Bool.noConfusion hc.1)]; exact ih a
theorem pd_t {x : Int → Int} {a : Int} (h : 48 ≤ x a ∧ x a ≤ 57) : pd x (a, true) = (a + 1, true) := if_pos ⟨rfl, h⟩
theorem pd_n {x : Int → Int} {a : Int} (h : ¬ (48 ≤ x a ∧ x a ≤ 57)) : pd x (a, true) = (a, false) := if_neg (fun hc => h hc.2)
theorem vd_t {x : Int → Int} {a : Int} (h : 48 ≤ x a ∧ x a ≤ 57) : vd x (a, true) = x a - 48 := if_pos ⟨rfl, h⟩
/-- a number is up to three digits -/
theorem pn_dE (x : Int → Int) (a : Int) : (dE x 3 a = a ∧ pn x (a, true) = (a, false)) ∨ (dE x 3 a ≠ a ∧ pn x (a, true) = (dE x 3 a, true) ∧ vn x (a, true) = dV x (dE x 3 a - a).toNat a 0) := by
  unfold pn vn
  by_cases h1 : 48 ≤ x a ∧ x a ≤ 57
  · right
    rw [pd_t h1, vd_t h1]
    by_cases h2 : 48 ≤ x (a + 1) ∧ x (a + 1) ≤ 57
    · by_cases h3 : 48 ≤ x (a + 1 + 1) ∧ x (a + 1 + 1) ≤ 57
      · have hd : dE x 3 a = a + 1 + 1 + 1 := by
          unfold dE; rw [if_pos h1]; unfold dE; rw [if_pos h2]; unfold dE; rw [if_pos h3]; rfl
        rw [hd]
        refine ⟨by omega, ?_, ?_⟩
        · unfold pnl; rw [if_pos ⟨rfl, h2⟩, pd_t h2]; unfold pnl; rw [if_pos ⟨rfl, h3⟩, pd_t h3]; rfl
        · unfold vnl; rw [if_pos ⟨rfl, h2⟩, pd_t h2, vd_t h2]; unfold vnl; rw [if_pos ⟨rfl, h3⟩, vd_t h3]
          rw [show (a + 1 + 1 + 1 - a).toNat = 3 by omega]
          show 10 * (10 * (x a - 48) + (x (a + 1) - 48)) + (x (a + 1 + 1) - 48) = ((0 * 10 + (x a - 48)) * 10 + (x (a + 1) - 48)) * 10 + (x (a + 1 + 1) - 48)
          omega
      · have hd : dE x 3 a = a + 1 + 1 := by
          unfold dE; rw [if_pos h1]; unfold dE; rw [if_pos h2]; unfold dE; rw [if_neg h3]
        rw [hd]
        refine ⟨by omega, ?_, ?_⟩
        · unfold pnl; rw [if_pos ⟨rfl, h2⟩, pd_t h2]; unfold pnl; rw [if_neg (fun hc => h3 hc.2)]
        · unfold vnl; rw [if_pos ⟨rfl, h2⟩, pd_t h2, vd_t h2]; unfold vnl; rw [if_neg (fun hc => h3 hc.2)]
          rw [show (a + 1 + 1 - a).toNat = 2 by omega]
          show 10 * (x a - 48) + (x (a + 1) - 48) = (0 * 10 + (x a - 48)) * 10 + (x (a + 1) - 48)
          omega
    · have hd : dE x 3 a = a + 1 := by
        unfold dE; rw [if_pos h1]; unfold dE; rw [if_neg h2]
      rw [hd]
      refine ⟨by omega, ?_, ?_⟩
      · unfold pnl; rw [if_neg (fun hc => h2 hc.2)]
      · unfold vnl; rw [if_neg (fun hc => h2 hc.2)]
        rw [show (a + 1 - a).toNat = 1 by omega]
        show x a - 48 = 0 * 10 + (x a - 48)
        omega
  · left
    rw [pd_n h1]
    refine ⟨by unfold dE; rw [if_neg h1], ?_⟩
    exact if_neg (fun hc => Bool.noConfusion hc.1)
theorem sq_wk (x : Int → Int) : ∀ (L : List Int) (a : Int), (sq x L (a, true)).1 = ((wk x L a).1, (wk x L a).2.1) ∧ ((wk x L a).2.1 = true → (sq x L (a, true)).2 = (wk x L a).2.2) := by
  intro L
  induction L with
  | nil => intro a; exact ⟨rfl, fun _ => rfl⟩
  | cons c L ih =>
    intro a
    unfold sq
    by_cases c1 : c = 57
    · subst c1
      rw [if_pos rfl]
      by_cases h1 : 48 ≤ x a ∧ x a ≤ 57
      · have hd : dE x (mst 57) a = a + 1 := by
          show dE x 1 a = a + 1
          unfold dE; rw [if_pos h1]; rfl
        rw [pd_t h1, vd_t h1, wk_d (.inl rfl) (by rw [hd]; omega), hd]
        obtain ⟨i1, i2⟩ := ih (a + 1)
        refine ⟨i1, fun h => ?_⟩
        show (x a - 48) :: _ = dV x (a + 1 - a).toNat a 0 :: _
        rw [i2 h, show (a + 1 - a).toNat = 1 by omega]
        show (x a - 48) :: _ = (0 * 10 + (x a - 48)) :: _
        rw [Int.zero_mul, Int.zero_add]
      · have hd : dE x (mst 57) a = a := by
          show dE x 1 a = a
          unfold dE; rw [if_neg h1]
        rw [pd_n h1, wk_dn (.inl rfl) hd]
        exact ⟨sq_f x L a, fun h => Bool.noConfusion h⟩
    · rw [if_neg c1]
      by_cases c2 : c = 35
      · subst c2
        rw [if_pos rfl]
        obtain ⟨h1, h2⟩ | ⟨h1, h2, h3⟩ := pn_dE x a
        · rw [h2, wk_dn (.inr rfl) h1]
          exact ⟨sq_f x L a, fun h => Bool.noConfusion h⟩
        · rw [h2, wk_d (.inr rfl) h1, h3]
          obtain ⟨i1, i2⟩ := ih (dE x 3 a)
          refine ⟨i1, fun h => ?_⟩
          show _ :: _ = _ :: _
          rw [i2 h]; rfl
      · rw [if_neg c2]
        by_cases h1 : x a = c
        · rw [show pe x c (a, true) = (a + 1, true) from if_pos ⟨rfl, h1⟩, wk_l (by omega) h1]
          exact ih (a + 1)
        · rw [show pe x c (a, true) = (a, false) from if_neg (fun hc => h1 hc.2), wk_ln (by omega) h1]
          exact ⟨sq_f x L a, fun h => Bool.noConfusion h⟩
