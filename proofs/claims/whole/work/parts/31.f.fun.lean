/-! The reference's parser: arguments, words, the program. -/
/-- what the arguments of a word are -/
def rA (x : Int → Int) (w : Nat) (p : Int) : Int × Bool × List Int := if w = 9 ∧ x p ≠ 32 then (p, true, []) else wk x (rs w) p
def HA (M : Mem) (x : Int → Int) (w : Nat) (p : Int) (to : Nat) : Prop := ((rA x w p).2.1 = true → ∀ j, j < (rA x w p).2.2.length → M 32 0 (to + j) = iZ ((rA x w p).2.2.getD j 0)) ∧ (w = 9 ∧ x p ≠ 32 → M 32 0 to = iZ 1)
theorem St.mu32 {M : Mem} {st : Int × Bool} (h : St M st) (k : Nat) (v : Int32) : St (mu M 32 0 k v) st := ⟨by rw [mu_miss _ _ (by omega)]; exact h.1, by rw [mu_miss _ _ (by omega)]; exact h.2⟩
theorem RT.mu32 {M : Mem} {m : Int} {T : Int → Int} (h : RT M m T) (k : Nat) (v : Int32) : RT (mu M 32 0 k v) m T := h.of (fun d i l hd => mu_miss _ _ (by omega))
theorem Fa.mu32 {to : Nat} {M M2 : Mem} (h : Fa 1000 M M2) {k : Nat} (hk : to ≤ k) (hk2 : to ≤ 1000) (v : Int32) : Fa to M (mu M2 32 0 k v) := fun d i l h1 h2 => by
  rw [mu_miss _ _ (by omega)]; exact h d i l h1 (by omega)
theorem fa32 {M M2 : Mem} (h : Fa 1000 M M2) {k : Nat} (hk : k < 1000) : M2 32 0 k = M 32 0 k := h 32 0 k (by omega) (by omega)
/-- from the signs one by one to the walk -/
theorem HA_sq {M M2 : Mem} {T : Int → Int} {m p : Int} {w to : Nat} (hw : w < 9) (hs : St M2 (sq (hx T m) (rs w) (p, true)).1) (hv : ∀ j, j < (sq (hx T m) (rs w) (p, true)).2.length → M2 32 0 (to + j) = iZ ((sq (hx T m) (rs w) (p, true)).2.getD j 0)) : St M2 ((rA (hx T m) w p).1, (rA (hx T m) w p).2.1) ∧ HA M2 (hx T m) w p to := by
  have hr : rA (hx T m) w p = wk (hx T m) (rs w) p := if_neg (fun hc => by omega)
  obtain ⟨q1, q2⟩ := sq_wk (hx T m) (rs w) p
  unfold HA
  rw [hr]
  refine ⟨by rw [q1] at hs; exact hs, fun hok j hj => ?_, fun hc => by omega⟩
  rw [q2 hok] at hv
  exact hv j hj
theorem r_args {M : Mem} {m : Int} {T : Int → Int} (h : RT M m T) {p : Int} (hs : St M (p, true)) (p0 : 0 ≤ p) (p1 : p ≤ m) {w : Nat} (hw : w < 10) {to : Nat} (ht : to + 4 ≤ 305) :
    ∃ M2, f_X8_readArguments M (iZ w) (iZ to) = some M2 ∧ St M2 ((rA (hx T m) w p).1, (rA (hx T m) w p).2.1) ∧ Fa to M M2 ∧ HA M2 (hx T m) w p to := by
  have v0 : vin (iZ (to : Int)) 305 := of_eq_true (z_vin (by omega) (by omega) (by omega))
  have v1 : vin (iZ ((to : Int) + 1)) 305 := of_eq_true (z_vin (by omega) (by omega) (by omega))
  have v2 : vin (iZ ((to : Int) + 2)) 305 := of_eq_true (z_vin (by omega) (by omega) (by omega))
  have v3 : vin (iZ ((to : Int) + 3)) 305 := of_eq_true (z_vin (by omega) (by omega) (by omega))
  have x0 : ix (iZ (to : Int)) = to := by rw [z_ix (by omega) (by omega), Int.toNat_natCast]
  have x1 : ix (iZ ((to : Int) + 1)) = to + 1 := by rw [z_ix (by omega) (by omega)]; omega
  have x2 : ix (iZ ((to : Int) + 2)) = to + 2 := by rw [z_ix (by omega) (by omega)]; omega
  have x3 : ix (iZ ((to : Int) + 3)) = to + 3 := by rw [z_ix (by omega) (by omega)]; omega
  have a1 : iZ (to : Int) + (1 : Int32) = iZ ((to : Int) + 1) := by rw [zc_1, z_add]
  have a2 : iZ (to : Int) + (2 : Int32) = iZ ((to : Int) + 2) := by rw [zc_2, z_add]
  have a3 : iZ (to : Int) + (3 : Int32) = iZ ((to : Int) + 3) := by rw [zc_3, z_add]
  have one : ∀ w, (w = 2 ∨ w = 3 ∨ w = 7) → ∃ M2, (bd2 (f_X8_number M) fun r118 M117 => if vin (iZ (to : Int)) 305 then (nm (mu M117 32 0 (ix (iZ (to : Int))) r118) fun M120 => some M120) else none) = some M2 ∧ St M2 ((rA (hx T m) w p).1, (rA (hx T m) w p).2.1) ∧ Fa to M M2 ∧ HA M2 (hx T m) w p to := fun w hw => by
    have hrs : rs w = [35] := by obtain rfl | rfl | rfl := hw <;> rfl
    obtain ⟨M1, q1, q2, q3, q4, q5⟩ := r_nmb h hs p0 p1 1000
    refine ⟨mu M1 32 0 to (iZ (vn (hx T m) (p, true))), by rw [q1, bd2_s, if_pos v0, x0, nm_s], ?_⟩
    have := HA_sq (M := M) (M2 := mu M1 32 0 to (iZ (vn (hx T m) (p, true)))) (T := T) (m := m) (p := p) (w := w) (to := to) (by omega) (by rw [hrs]; exact q2.mu32 _ _) (fun j hj => by
      rw [hrs] at hj ⊢
      have hj : j < 1 := hj
      obtain rfl : j = 0 := by omega
      exact mu_hit _ _ _ _ _)
    exact ⟨this.1, q3.mu32 (Nat.le_refl _) (by omega) _, this.2⟩
  have two : ∀ w, (w = 5 ∨ w = 6) → ∃ M2, (bd2 (f_X8_number M) fun r151 M150 => if vin (iZ (to : Int)) 305 then (nm (mu M150 32 0 (ix (iZ (to : Int))) r151) fun M153 => bd2 (f_X8_numberBehind M153 (32 : Int32)) fun r156 M155 => if vin (iZ (to : Int) + (1 : Int32)) 305 then (nm (mu M155 32 0 (ix (iZ (to : Int) + (1 : Int32))) r156) fun M158 => some M158) else none) else none) = some M2 ∧ St M2 ((rA (hx T m) w p).1, (rA (hx T m) w p).2.1) ∧ Fa to M M2 ∧ HA M2 (hx T m) w p to := fun w hw => by
    have hrs : rs w = [35, 32, 35] := by obtain rfl | rfl := hw <;> rfl
    obtain ⟨M1, q1, q2, q3, q4, q5⟩ := r_nmb h hs p0 p1 1000
    obtain ⟨M2, s1, s2, s3, s4, s5⟩ := r_numB ((h.fa q3).mu32 to (iZ (vn (hx T m) (p, true)))) (q2.mu32 to (iZ (vn (hx T m) (p, true)))) q4 q5 (c := 32) (by omega) (by omega) 1000
    refine ⟨mu M2 32 0 (to + 1) (iZ (vn (hx T m) (pe (hx T m) 32 (pn (hx T m) (p, true))))), by rw [q1, bd2_s, if_pos v0, x0, nm_s, show (32 : Int32) = iZ 32 from rfl, s1, bd2_s, a1, if_pos v1, x1, nm_s], ?_⟩
    have := HA_sq (M := M) (M2 := mu M2 32 0 (to + 1) (iZ (vn (hx T m) (pe (hx T m) 32 (pn (hx T m) (p, true)))))) (T := T) (m := m) (p := p) (w := w) (to := to) (by omega) (by rw [hrs]; exact s2.mu32 _ _) (fun j hj => by
      rw [hrs] at hj ⊢
      have hj : j < 2 := hj
      obtain rfl | rfl : j = 0 ∨ j = 1 := by omega
      · rw [mu_miss _ _ (by omega), fa32 s3 (by omega)]; exact mu_hit _ _ _ _ _
      · exact mu_hit _ _ _ _ _)
    exact ⟨this.1, (q3.mu32 (Nat.le_refl _) (by omega) _).tr (s3.mu32 (by omega) (by omega) _), this.2⟩
  have three : ∀ c, 0 ≤ c → c ≤ 126 → ∀ M1 : Mem, RT M1 m T → ∀ st : Int × Bool, St M1 st → 0 ≤ st.1 → st.1 ≤ m → True := fun _ _ _ _ _ _ _ _ _ => trivial
  unfold f_X8_readArguments
  obtain rfl | rfl | rfl | rfl | rfl | rfl | rfl | rfl | rfl | rfl : w = 0 ∨ w = 1 ∨ w = 2 ∨ w = 3 ∨ w = 4 ∨ w = 5 ∨ w = 6 ∨ w = 7 ∨ w = 8 ∨ w = 9 := by omega
  · simp only [show ¬ (iZ ((0 : Nat) : Int) = (1 : Int32)) by decide, show ¬ (iZ ((0 : Nat) : Int) = (2 : Int32)) by decide, show ¬ (iZ ((0 : Nat) : Int) = (3 : Int32)) by decide, show ¬ (iZ ((0 : Nat) : Int) = (4 : Int32)) by decide, show ¬ (iZ ((0 : Nat) : Int) = (5 : Int32)) by decide, show ¬ (iZ ((0 : Nat) : Int) = (6 : Int32)) by decide, show ¬ (iZ ((0 : Nat) : Int) = (7 : Int32)) by decide, show ¬ (iZ ((0 : Nat) : Int) = (9 : Int32)) by decide, ↓reduceIte]
    have := HA_sq (M := M) (M2 := M) (T := T) (m := m) (p := p) (w := 0) (to := to) (by omega) hs (fun j hj => absurd hj (Nat.not_lt_zero j))
    exact ⟨M, rfl, this.1, fun _ _ _ _ _ => rfl, this.2⟩
  · rw [if_pos (by decide)]
    obtain ⟨M1, q1, q2, q3, q4, q5⟩ := r_dig h hs p0 p1 1000
    obtain ⟨M2, s1, s2, s3, s4, s5⟩ := r_dig ((h.fa q3).mu32 to (iZ (vd (hx T m) (p, true)))) (q2.mu32 to (iZ (vd (hx T m) (p, true)))) q4 q5 1000
    have hT2 := ((h.fa q3).mu32 to (iZ (vd (hx T m) (p, true)))).fa s3
    obtain ⟨M3, t1, t2, t3, t4, t5⟩ := r_digB (hT2.mu32 (to + 1) (iZ (vd (hx T m) (pd (hx T m) (p, true))))) (s2.mu32 (to + 1) (iZ (vd (hx T m) (pd (hx T m) (p, true))))) s4 s5 (c := 32) (by omega) (by omega) 1000
    have hT3 := (hT2.mu32 (to + 1) (iZ (vd (hx T m) (pd (hx T m) (p, true))))).fa t3
    obtain ⟨M4, u1, u2, u3, u4, u5⟩ := r_digB (hT3.mu32 (to + 2) (iZ (vd (hx T m) (pe (hx T m) 32 (pd (hx T m) (pd (hx T m) (p, true))))))) (t2.mu32 (to + 2) (iZ (vd (hx T m) (pe (hx T m) 32 (pd (hx T m) (pd (hx T m) (p, true))))))) t4 t5 (c := 47) (by omega) (by omega) 1000
    refine ⟨mu M4 32 0 (to + 3) (iZ (vd (hx T m) (pe (hx T m) 47 (pd (hx T m) (pe (hx T m) 32 (pd (hx T m) (pd (hx T m) (p, true)))))))), by rw [q1, bd2_s, if_pos v0, x0, nm_s, s1, bd2_s, a1, if_pos v1, x1, nm_s, show (32 : Int32) = iZ 32 from rfl, t1, bd2_s, a2, if_pos v2, x2, nm_s, show (47 : Int32) = iZ 47 from rfl, u1, bd2_s, a3, if_pos v3, x3, nm_s], ?_⟩
    have := HA_sq (M := M) (M2 := mu M4 32 0 (to + 3) (iZ (vd (hx T m) (pe (hx T m) 47 (pd (hx T m) (pe (hx T m) 32 (pd (hx T m) (pd (hx T m) (p, true))))))))) (T := T) (m := m) (p := p) (w := 1) (to := to) (by omega) (u2.mu32 _ _) (fun j hj => by
      have hj : j < 4 := hj
      obtain rfl | rfl | rfl | rfl : j = 0 ∨ j = 1 ∨ j = 2 ∨ j = 3 := by omega
      · rw [mu_miss _ _ (by omega), fa32 u3 (by omega), mu_miss _ _ (by omega), fa32 t3 (by omega), mu_miss _ _ (by omega), fa32 s3 (by omega)]; exact mu_hit _ _ _ _ _
      · rw [mu_miss _ _ (by omega), fa32 u3 (by omega), mu_miss _ _ (by omega), fa32 t3 (by omega)]; exact mu_hit _ _ _ _ _
      · rw [mu_miss _ _ (by omega), fa32 u3 (by omega)]; exact mu_hit _ _ _ _ _
      · exact mu_hit _ _ _ _ _)
    exact ⟨this.1, (((q3.mu32 (Nat.le_refl _) (by omega) _).tr (s3.mu32 (by omega) (by omega) _)).tr (t3.mu32 (by omega) (by omega) _)).tr (u3.mu32 (by omega) (by omega) _), this.2⟩
  · rw [if_neg (by decide), if_pos (by decide)]
    exact one 2 (by omega)
  · rw [if_neg (by decide), if_neg (by decide), if_pos (by decide)]
    exact one 3 (by omega)
  · rw [if_neg (by decide), if_neg (by decide), if_neg (by decide), if_pos (by decide)]
    obtain ⟨M1, q1, q2, q3, q4, q5⟩ := r_dig h hs p0 p1 1000
    obtain ⟨M2, s1, s2, s3, s4, s5⟩ := r_dig ((h.fa q3).mu32 to (iZ (vd (hx T m) (p, true)))) (q2.mu32 to (iZ (vd (hx T m) (p, true)))) q4 q5 1000
    have hT2 := ((h.fa q3).mu32 to (iZ (vd (hx T m) (p, true)))).fa s3
    obtain ⟨M3, t1, t2, t3, t4, t5⟩ := r_digB (hT2.mu32 (to + 1) (iZ (vd (hx T m) (pd (hx T m) (p, true))))) (s2.mu32 (to + 1) (iZ (vd (hx T m) (pd (hx T m) (p, true))))) s4 s5 (c := 32) (by omega) (by omega) 1000
    have hT3 := (hT2.mu32 (to + 1) (iZ (vd (hx T m) (pd (hx T m) (p, true))))).fa t3
    obtain ⟨M4, u1, u2, u3, u4, u5⟩ := r_numB (hT3.mu32 (to + 2) (iZ (vd (hx T m) (pe (hx T m) 32 (pd (hx T m) (pd (hx T m) (p, true))))))) (t2.mu32 (to + 2) (iZ (vd (hx T m) (pe (hx T m) 32 (pd (hx T m) (pd (hx T m) (p, true))))))) t4 t5 (c := 42) (by omega) (by omega) 1000
    refine ⟨mu M4 32 0 (to + 3) (iZ (vn (hx T m) (pe (hx T m) 42 (pd (hx T m) (pe (hx T m) 32 (pd (hx T m) (pd (hx T m) (p, true)))))))), by rw [q1, bd2_s, if_pos v0, x0, nm_s, s1, bd2_s, a1, if_pos v1, x1, nm_s, show (32 : Int32) = iZ 32 from rfl, t1, bd2_s, a2, if_pos v2, x2, nm_s, show (42 : Int32) = iZ 42 from rfl, u1, bd2_s, a3, if_pos v3, x3, nm_s], ?_⟩
    have := HA_sq (M := M) (M2 := mu M4 32 0 (to + 3) (iZ (vn (hx T m) (pe (hx T m) 42 (pd (hx T m) (pe (hx T m) 32 (pd (hx T m) (pd (hx T m) (p, true))))))))) (T := T) (m := m) (p := p) (w := 4) (to := to) (by omega) (u2.mu32 _ _) (fun j hj => by
      have hj : j < 4 := hj
      obtain rfl | rfl | rfl | rfl : j = 0 ∨ j = 1 ∨ j = 2 ∨ j = 3 := by omega
      · rw [mu_miss _ _ (by omega), fa32 u3 (by omega), mu_miss _ _ (by omega), fa32 t3 (by omega), mu_miss _ _ (by omega), fa32 s3 (by omega)]; exact mu_hit _ _ _ _ _
      · rw [mu_miss _ _ (by omega), fa32 u3 (by omega), mu_miss _ _ (by omega), fa32 t3 (by omega)]; exact mu_hit _ _ _ _ _
      · rw [mu_miss _ _ (by omega), fa32 u3 (by omega)]; exact mu_hit _ _ _ _ _
      · exact mu_hit _ _ _ _ _)
    exact ⟨this.1, (((q3.mu32 (Nat.le_refl _) (by omega) _).tr (s3.mu32 (by omega) (by omega) _)).tr (t3.mu32 (by omega) (by omega) _)).tr (u3.mu32 (by omega) (by omega) _), this.2⟩
  · rw [if_neg (by decide), if_neg (by decide), if_neg (by decide), if_neg (by decide), if_pos (by decide)]
    exact two 5 (by omega)
  · rw [if_neg (by decide), if_neg (by decide), if_neg (by decide), if_neg (by decide), if_neg (by decide), if_pos (by decide)]
    exact two 6 (by omega)
  · rw [if_neg (by decide), if_neg (by decide), if_neg (by decide), if_neg (by decide), if_neg (by decide), if_neg (by decide), if_pos (by decide)]
    exact one 7 (by omega)
  · simp only [show ¬ (iZ ((8 : Nat) : Int) = (1 : Int32)) by decide, show ¬ (iZ ((8 : Nat) : Int) = (2 : Int32)) by decide, show ¬ (iZ ((8 : Nat) : Int) = (3 : Int32)) by decide, show ¬ (iZ ((8 : Nat) : Int) = (4 : Int32)) by decide, show ¬ (iZ ((8 : Nat) : Int) = (5 : Int32)) by decide, show ¬ (iZ ((8 : Nat) : Int) = (6 : Int32)) by decide, show ¬ (iZ ((8 : Nat) : Int) = (7 : Int32)) by decide, show ¬ (iZ ((8 : Nat) : Int) = (9 : Int32)) by decide, ↓reduceIte]
    have := HA_sq (M := M) (M2 := M) (T := T) (m := m) (p := p) (w := 8) (to := to) (by omega) hs (fun j hj => absurd hj (Nat.not_lt_zero j))
    exact ⟨M, rfl, this.1, fun _ _ _ _ _ => rfl, this.2⟩
  · rw [if_neg (by decide), if_neg (by decide), if_neg (by decide), if_neg (by decide), if_neg (by decide), if_neg (by decide), if_neg (by decide), if_pos (by decide), bdq (r_here h hs.1 p0 p1)]
    unfold f_X8_readArguments_222 HA rA
    have hb := hx_in h p0
    by_cases e : hx T m p = 32
    · have hn : ¬ ((9 : Nat) = 9 ∧ hx T m p ≠ 32) := fun hc => hc.2 e
      rw [if_neg hn, if_pos (show iZ (hx T m p) = (32 : Int32) by rw [e]; rfl)]
      obtain ⟨M1, q1, q2, q3, q4, q5⟩ := r_numB h hs p0 p1 (c := 32) (by omega) (by omega) 1000
      have hq := sq_wk (hx T m) [32, 35] p
      have hr : rs 9 = [32, 35] := rfl
      rw [hr]
      refine ⟨mu M1 32 0 to (iZ (vn (hx T m) (pe (hx T m) 32 (p, true)))), by rw [show (32 : Int32) = iZ 32 from rfl, q1, bd2_s, if_pos v0, x0, nm_s], ?_, q3.mu32 (Nat.le_refl _) (by omega) _, fun hok j hj => ?_, fun hc => absurd hc hn⟩
      · rw [← hq.1]; exact q2.mu32 _ _
      · rw [← hq.2 hok] at hj ⊢
        have hj : j < 1 := hj
        obtain rfl : j = 0 := by omega
        exact mu_hit _ _ _ _ _
    · have hn : (9 : Nat) = 9 ∧ hx T m p ≠ 32 := ⟨rfl, e⟩
      rw [if_pos hn, if_neg (show ¬ (iZ (hx T m p) = (32 : Int32)) by rw [show (32 : Int32) = iZ 32 from rfl]; exact ne_z (by omega) (by omega) e), if_pos v0, x0, nm_s]
      refine ⟨_, rfl, hs.mu32 _ _, fun d i l h1 h2 => by rw [mu_miss _ _ (by omega)], fun _ j hj => absurd hj (Nat.not_lt_zero j), fun _ => mu_hit _ _ _ _ _⟩
