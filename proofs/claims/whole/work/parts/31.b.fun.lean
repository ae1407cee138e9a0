/-- a good end -/
abbrev gE (x : Int → Int) (m p : Int) : Prop := p = m ∨ x p = 59
/-- the class goes through the forms -/
def ec (x : Int → Int) (m s : Int) : Nat → Nat → Int → Option Nat × Int
  | 0, _, f => (none, f)
  | n + 1, k, f => if (wk x (cst k) s).2.1 = true ∧ gE x m (wk x (cst k) s).1 then (some k, max f (wk x (cst k) s).1) else ec x m s n (k + 1) (max f (wk x (cst k) s).1)
theorem ec_none {x : Int → Int} {m s p : Int} : ∀ (n k : Nat) (f : Int), (∀ j, k ≤ j → j < k + n → ¬ ((wk x (cst j) s).2.1 = true ∧ gE x m (wk x (cst j) s).1) ∧ (wk x (cst j) s).1 ≤ p) → f ≤ p → (f = p ∨ ∃ j, k ≤ j ∧ j < k + n ∧ (wk x (cst j) s).1 = p) → ec x m s n k f = (none, p) := by
  intro n
  induction n with
  | zero =>
    intro k f _ _ h3
    obtain rfl | ⟨j, j0, j1, -⟩ := h3
    · rfl
    · omega
  | succ n ih =>
    intro k f h1 h2 h3
    obtain ⟨h4, h5⟩ := h1 k (by omega) (by omega)
    rw [ec, if_neg h4]
    refine ih (k + 1) _ (fun j j0 j1 => h1 j (by omega) (by omega)) (by omega) ?_
    obtain rfl | ⟨j, j0, j1, j2⟩ := h3
    · exact .inl (by omega)
    · by_cases e : j = k
      · subst e; exact .inl (by omega)
      · exact .inr ⟨j, by omega, by omega, j2⟩
theorem ec_some {x : Int → Int} {m s : Int} {k0 : Nat} (hg : (wk x (cst k0) s).2.1 = true ∧ gE x m (wk x (cst k0) s).1) : ∀ (n k : Nat) (f : Int), k ≤ k0 → k0 < k + n → (∀ j, k ≤ j → j < k0 → ¬ ((wk x (cst j) s).2.1 = true ∧ gE x m (wk x (cst j) s).1) ∧ (wk x (cst j) s).1 ≤ (wk x (cst k0) s).1) → f ≤ (wk x (cst k0) s).1 → ec x m s n k f = (some k0, (wk x (cst k0) s).1) := by
  intro n
  induction n with
  | zero => intro k f h1 h2; omega
  | succ n ih =>
    intro k f h1 h2 h3 h4
    by_cases e : k = k0
    · subst e
      rw [ec, if_pos hg]
      rw [show max f (wk x (cst k) s).1 = (wk x (cst k) s).1 by omega]
    · obtain ⟨h5, h6⟩ := h3 k (by omega) (by omega)
      rw [ec, if_neg h5]
      exact ih (k + 1) _ (by omega) (by omega) (fun j j0 j1 => h3 j (by omega) j1) (by omega)
/-- the forms by the words -/
theorem wk_cst {x : Int → Int} (s : Int) {k : Nat} (hk : k < 10) : wk x (cst k) s = if lk x s k = (wd k).length then wk x (rs k) (s + (wd k).length) else (s + lk x s k, false, []) := by
  rw [cst_wd k hk]
  exact wk_app (rs k) (wd k) s (wd_lit k hk)
theorem wk_cst10 {x : Int → Int} (s : Int) : wk x (cst 10) s = if lk x s 9 = (wd 9).length then (s + (wd 9).length, true, []) else (s + lk x s 9, false, []) := by
  rw [cst_wd10]
  exact wk_app [] (wd 9) s (wd_lit 9 (by omega))
theorem wd9_len : ((wd 9).length : Int) = 5 := by decide
/-- both read the same command -/
theorem ec_rc {T : Int → Int} {m s f : Int} (s0 : 0 ≤ s) (s1 : s ≤ m) (hf : f ≤ s) : ec (hx T m) m s 11 0 f = (if (rc (hx T m) s).2.1 = true ∧ gE (hx T m) m (rc (hx T m) s).1 then some (rk (hx T m) s) else none, (rc (hx T m) s).1) ∧ ((rc (hx T m) s).2.1 = true ∧ gE (hx T m) m (rc (hx T m) s).1 → wk (hx T m) (cst (rk (hx T m) s)) s = rc (hx T m) s ∧ s + 5 ≤ (rc (hx T m) s).1) ∧ s ≤ (rc (hx T m) s).1 ∧ (rc (hx T m) s).1 ≤ m := by
  obtain ⟨w1, w2⟩ := bw_in (hx T m) s
  have hlk : ∀ j, 0 ≤ lk (hx T m) s j ∧ lk (hx T m) s j ≤ (wd j).length := fun j => lkL_in (wd j) s
  have hin : ∀ j, j < 11 → s ≤ (wk (hx T m) (cst j) s).1 ∧ (wk (hx T m) (cst j) s).1 ≤ m := fun j hj => wk_in (cst j) s (cst_pos j hj) s0 s1
  unfold rc rk
  generalize hw : bw (hx T m) s = w at *
  have hwl := wd_len w w1
  by_cases c : lk (hx T m) s w = (wd w).length
  · rw [if_pos c]
    -- the others fail no later than the word's end
    have ho : ∀ j, j < 10 → j ≠ w → (wk (hx T m) (cst j) s).2.1 = false ∧ (wk (hx T m) (cst j) s).1 ≤ s + (wd w).length := fun j hj hjw => by
      have h1 : lk (hx T m) s j ≠ (wd j).length := fun hc => by
        have := lk_ne hj w1 hjw hc
        have := w2 j hj
        omega
      rw [wk_cst s hj, if_neg h1]
      exact ⟨rfl, by show s + lk (hx T m) s j ≤ _; have := w2 j hj; omega⟩
    have hcw := wk_cst (x := hx T m) s w1
    rw [if_pos c] at hcw
    by_cases h9 : w = 9
    · subst h9
      have h10 := wk_cst10 (x := hx T m) s
      rw [if_pos c, wd9_len] at h10
      rw [wd9_len] at hcw ho
      have hrs : rs 9 = [32, 35] := rfl
      rw [hrs] at hcw
      have i10 := hin 10 (by omega)
      rw [h10] at i10
      have i9 := hin 9 (by omega)
      by_cases h32 : hx T m (s + 5) = 32
      · have hn9 : ¬ ((9 : Nat) = 9 ∧ hx T m (s + 5) ≠ 32) := fun hc => hc.2 h32
        rw [if_neg hn9, if_neg hn9, wd9_len, hrs, ← hcw]
        have hno10 : ¬ ((wk (hx T m) (cst 10) s).2.1 = true ∧ gE (hx T m) m (wk (hx T m) (cst 10) s).1) := fun hc => by
          rw [h10] at hc
          obtain ⟨-, h | h⟩ := hc
          · have h' : s + 5 = m := h
            unfold hx at h32
            rw [if_neg (by omega)] at h32
            omega
          · have h' : hx T m (s + 5) = 59 := h
            omega
        have hge : s + 5 ≤ (wk (hx T m) (cst 9) s).1 := by
          rw [hcw]
          have h6 : s + 6 ≤ m := by
            refine Classical.byContradiction fun hn => ?_
            unfold hx at h32
            rw [if_neg (by omega)] at h32
            omega
          have := (wk_in (T := T) (m := m) [32, 35] (s + 5) (by decide) (by omega) (by omega)).1
          exact this
        refine ⟨?_, fun hg => ⟨rfl, hge⟩, i9.1, i9.2⟩
        by_cases hg : (wk (hx T m) (cst 9) s).2.1 = true ∧ gE (hx T m) m (wk (hx T m) (cst 9) s).1
        · rw [if_pos hg]
          exact ec_some hg 11 0 f (by omega) (by omega) (fun j j0 j1 => ⟨fun hc => by rw [(ho j (by omega) (by omega)).1] at hc; exact Bool.noConfusion hc.1, by have := (ho j (by omega) (by omega)).2; omega⟩) (by omega)
        · rw [if_neg hg]
          refine ec_none 11 0 f (fun j j0 j1 => ?_) (by omega) (.inr ⟨9, by omega, by omega, rfl⟩)
          by_cases e9 : j = 9
          · subst e9; exact ⟨hg, Int.le_refl _⟩
          · by_cases e10 : j = 10
            · subst e10
              refine ⟨hno10, ?_⟩
              rw [h10]; exact hge
            · exact ⟨fun hc => by rw [(ho j (by omega) e9).1] at hc; exact Bool.noConfusion hc.1, by have := (ho j (by omega) e9).2; omega⟩
      · have hn9 : (9 : Nat) = 9 ∧ hx T m (s + 5) ≠ 32 := ⟨rfl, h32⟩
        rw [if_pos hn9, if_pos hn9]
        have h9' : wk (hx T m) [32, 35] (s + 5) = (s + 5, false, []) := wk_ln (by omega) h32
        rw [h9'] at hcw
        refine ⟨?_, fun hg => ⟨h10, Int.le_refl _⟩, by show s ≤ s + 5; omega, i10.2⟩
        by_cases hg : gE (hx T m) m (s + 5)
        · rw [if_pos ⟨rfl, hg⟩]
          have := ec_some (x := hx T m) (m := m) (s := s) (k0 := 10) (by rw [h10]; exact ⟨rfl, hg⟩) 11 0 f (by omega) (by omega) (fun j j0 j1 => by
            by_cases e9 : j = 9
            · subst e9
              rw [hcw, h10]
              exact ⟨fun hc => by exact Bool.noConfusion hc.1, Int.le_refl _⟩
            · rw [h10]
              exact ⟨fun hc => by rw [(ho j (by omega) e9).1] at hc; exact Bool.noConfusion hc.1, (ho j (by omega) e9).2⟩) (by rw [h10]; show f ≤ s + 5; omega)
          rw [h10] at this
          exact this
        · rw [if_neg (fun hc => hg hc.2)]
          refine ec_none 11 0 f (fun j j0 j1 => ?_) (by show f ≤ s + 5; omega) (.inr ⟨10, by omega, by omega, by rw [h10]⟩)
          by_cases e10 : j = 10
          · subst e10
            rw [h10]
            exact ⟨fun hc => hg hc.2, Int.le_refl _⟩
          · by_cases e9 : j = 9
            · subst e9
              rw [hcw]
              exact ⟨fun hc => by exact Bool.noConfusion hc.1, Int.le_refl _⟩
            · exact ⟨fun hc => by rw [(ho j (by omega) e9).1] at hc; exact Bool.noConfusion hc.1, (ho j (by omega) e9).2⟩
    · have hn9 : ¬ (w = 9 ∧ hx T m (s + 5) ≠ 32) := fun hc => h9 hc.1
      rw [if_neg hn9, if_neg hn9, ← hcw]
      have hiw := hin w (by omega)
      have hge : s + (wd w).length ≤ (wk (hx T m) (cst w) s).1 := by
        rw [hcw]
        refine (wk_in (T := T) (m := m) (rs w) (s + (wd w).length) (rs_pos w w1) (by omega) ?_).1
        -- the word lies within the text
        have := lkL_at (x := hx T m) (wd w) s ((wd w).length - 1) (by show _ < lk (hx T m) s w; omega)
        refine Classical.byContradiction fun hn => ?_
        unfold hx at this
        rw [if_neg (by omega)] at this
        have h5 : 0 ≤ (wd w).getD ((wd w).length - 1) 0 := by
          have : ∀ k, k < 10 → 0 ≤ (wd k).getD ((wd k).length - 1) 0 := by decide +kernel
          exact this w w1
        omega
      have h10 : (wk (hx T m) (cst 10) s).2.1 = false ∧ (wk (hx T m) (cst 10) s).1 ≤ s + (wd w).length := by
        have h1 : lk (hx T m) s 9 ≠ (wd 9).length := fun hc => by
          have := lk_ne (by omega : 9 < 10) w1 (fun e => h9 e.symm) hc
          have := w2 9 (by omega)
          omega
        rw [wk_cst10, if_neg h1]
        exact ⟨rfl, by show s + lk (hx T m) s 9 ≤ _; have := w2 9 (by omega); omega⟩
      have hall : ∀ j, j < 11 → j ≠ w → (wk (hx T m) (cst j) s).2.1 = false ∧ (wk (hx T m) (cst j) s).1 ≤ s + (wd w).length := fun j hj hjw => by
        by_cases e : j = 10
        · subst e; exact h10
        · exact ho j (by omega) hjw
      refine ⟨?_, fun hg => ⟨rfl, by omega⟩, hiw.1, hiw.2⟩
      by_cases hg : (wk (hx T m) (cst w) s).2.1 = true ∧ gE (hx T m) m (wk (hx T m) (cst w) s).1
      · rw [if_pos hg]
        exact ec_some hg 11 0 f (by omega) (by omega) (fun j j0 j1 => ⟨fun hc => by rw [(hall j (by omega) (by omega)).1] at hc; exact Bool.noConfusion hc.1, by have := (hall j (by omega) (by omega)).2; omega⟩) (by omega)
      · rw [if_neg hg]
        refine ec_none 11 0 f (fun j j0 j1 => ?_) (by omega) (.inr ⟨w, by omega, by omega, rfl⟩)
        by_cases e : j = w
        · subst e; exact ⟨hg, Int.le_refl _⟩
        · exact ⟨fun hc => by rw [(hall j (by omega) e).1] at hc; exact Bool.noConfusion hc.1, by have := (hall j (by omega) e).2; omega⟩
  · rw [if_neg c]
    have h1 : ∀ j, j < 10 → lk (hx T m) s j ≠ (wd j).length := fun j hj hc => by
      by_cases e : j = w
      · subst e; exact c hc
      · have := lk_ne hj w1 e hc
        have := w2 j hj
        omega
    have hall : ∀ j, j < 11 → (wk (hx T m) (cst j) s).2.1 = false ∧ (wk (hx T m) (cst j) s).1 ≤ s + lk (hx T m) s w := fun j hj => by
      by_cases e : j = 10
      · subst e
        rw [wk_cst10, if_neg (h1 9 (by omega))]
        exact ⟨rfl, by show s + lk (hx T m) s 9 ≤ _; have := w2 9 (by omega); omega⟩
      · rw [wk_cst s (by omega), if_neg (h1 j (by omega))]
        exact ⟨rfl, by show s + lk (hx T m) s j ≤ _; have := w2 j (by omega); omega⟩
    have hwp : (wk (hx T m) (cst w) s).1 = s + lk (hx T m) s w := by rw [wk_cst s w1, if_neg c]
    have hiw := hin w (by omega)
    refine ⟨?_, (fun hg => by exact Bool.noConfusion hg.1), by show s ≤ s + lk (hx T m) s w; have := hlk w; omega, by show s + lk (hx T m) s w ≤ m; omega⟩
    rw [if_neg (fun hc => by exact Bool.noConfusion hc.1)]
    exact ec_none 11 0 f (fun j j0 j1 => ⟨fun hc => by rw [(hall j (by omega)).1] at hc; exact Bool.noConfusion hc.1, (hall j (by omega)).2⟩) (by show f ≤ s + lk (hx T m) s w; have := hlk w; omega) (.inr ⟨w, by omega, by omega, hwp⟩)
