/-! The order of forecasts. -/
theorem no_inj : ∀ (n : Nat) (f : Int → Int), (∀ k : Int, 0 ≤ k → k < n + 1 → 0 ≤ f k ∧ f k < n) → (∀ j k : Int, 0 ≤ j → j < n + 1 → 0 ≤ k → k < n + 1 → f j = f k → j = k) → False := by
  intro n
  induction n with
  | zero => intro f h1 _; have := h1 0 (by omega) (by omega); omega
  | succ n ih =>
    intro f h1 h2
    have hv := h1 (n + 1) (by omega) (by omega)
    refine ih (fun k => if f (n + 1) < f k then f k - 1 else f k) (fun k k0 k1 => ?_) (fun j k j0 j1 k0 k1 hjk => ?_)
    · have h3 := h1 k k0 (by omega)
      have h4 : f k ≠ f (n + 1) := fun hc => by have := h2 k (n + 1) k0 (by omega) (by omega) (by omega) hc; omega
      show 0 ≤ (if f (n + 1) < f k then f k - 1 else f k) ∧ (if f (n + 1) < f k then f k - 1 else f k) < n
      split <;> omega
    · have h4 : f k ≠ f (n + 1) := fun hc => by have := h2 k (n + 1) k0 (by omega) (by omega) (by omega) hc; omega
      have h5 : f j ≠ f (n + 1) := fun hc => by have := h2 j (n + 1) j0 (by omega) (by omega) (by omega) hc; omega
      refine h2 j k j0 (by omega) k0 (by omega) ?_
      revert hjk
      show (if f (n + 1) < f j then f j - 1 else f j) = (if f (n + 1) < f k then f k - 1 else f k) → f j = f k
      split <;> split <;> omega
theorem inj_onto {P : Int} {f : Int → Int} (h1 : ∀ k, 0 ≤ k → k < P → 0 ≤ f k ∧ f k < P) (h2 : ∀ j k : Int, 0 ≤ j → j < P → 0 ≤ k → k < P → f j = f k → j = k) {r : Int} (r0 : 0 ≤ r) (r1 : r < P) : ∃ k : Int, 0 ≤ k ∧ k < P ∧ f k = r := by
  refine Classical.byContradiction fun hn => ?_
  have hr : ∀ k : Int, 0 ≤ k → k < P → f k ≠ r := fun k k0 k1 hc => hn ⟨k, k0, k1, hc⟩
  refine no_inj (P - 1).toNat (fun k => if r < f k then f k - 1 else f k) (fun k k0 k1 => ?_) (fun j k j0 j1 k0 k1 hjk => ?_)
  · have h3 := h1 k k0 (by omega)
    have h4 := hr k k0 (by omega)
    show 0 ≤ (if r < f k then f k - 1 else f k) ∧ (if r < f k then f k - 1 else f k) < _
    split <;> omega
  · have h4 := hr k k0 (by omega)
    have h5 := hr j j0 (by omega)
    refine h2 j k j0 (by omega) k0 (by omega) ?_
    revert hjk
    show (if r < f j then f j - 1 else f j) = (if r < f k then f k - 1 else f k) → f j = f k
    split <;> split <;> omega
/-- how many come before k -/
def bfT (D : Int → Int) (k i : Int) : Int := if D i < D k then 1 else if D i = D k ∧ i < k then 1 else 0
def bef (D : Int → Int) (P k : Int) : Int := sF (bfT D k) P.toNat 0
theorem bfT_in (D : Int → Int) (k i : Int) : 0 ≤ bfT D k i ∧ bfT D k i ≤ 1 := by unfold bfT; split <;> (try split) <;> omega
theorem sF_lt {f g : Int → Int} {e : Int} : ∀ (n : Nat) (i : Int), (∀ k, i ≤ k → k < i + n → f k ≤ g k) → i ≤ e → e < i + n → f e < g e → sF f n i < sF g n i := by
  intro n
  induction n with
  | zero => intro i _ h1 h2 _; omega
  | succ n ih =>
    intro i h h1 h2 h3
    have h4 := h i (by omega) (by omega)
    unfold sF
    by_cases he : e = i
    · subst he
      have h5 : sF f n (e + 1) ≤ sF g n (e + 1) := by
        have := sF_nn (f := fun k => g k - f k) n (e + 1) (fun k a b => by have := h k (by omega) (by omega); show 0 ≤ g k - f k; omega)
        have h6 : ∀ (m : Nat) (j : Int), sF (fun k => g k - f k) m j = sF g m j - sF f m j := by
          intro m
          induction m with
          | zero => intro j; unfold sF; omega
          | succ m ihm => intro j; unfold sF; rw [ihm (j + 1)]; omega
        rw [h6] at this
        omega
      omega
    · have h5 := ih (i + 1) (fun k a b => h k (by omega) (by omega)) (by omega) (by omega) h3
      omega
theorem bef_in (D : Int → Int) {P k : Int} (k0 : 0 ≤ k) (k1 : k < P) : 0 ≤ bef D P k ∧ bef D P k < P := by
  have h1 := sF_nn (f := bfT D k) P.toNat 0 (fun i _ _ => (bfT_in D k i).1)
  have h2 := sF_lt (f := bfT D k) (g := fun _ => 1) (e := k) P.toNat 0 (fun i _ _ => (bfT_in D k i).2) k0 (by omega) (by
    show bfT D k k < 1
    unfold bfT
    rw [if_neg (by omega), if_neg (by omega)]
    omega)
  have h3 : ∀ (m : Nat) (j : Int), sF (fun _ => 1) m j = m := by
    intro m
    induction m with
    | zero => intro j; rfl
    | succ m ih => intro j; unfold sF; rw [ih (j + 1)]; omega
  rw [h3] at h2
  unfold bef
  omega
theorem bef_lt (D : Int → Int) {P j k : Int} (j0 : 0 ≤ j) (j1 : j < P) (h : D j < D k ∨ (D j = D k ∧ j < k)) : bef D P j < bef D P k := by
  unfold bef
  refine sF_lt (e := j) P.toNat 0 (fun i i0 i1 => ?_) j0 (by omega) ?_
  · unfold bfT
    split
    · rw [if_pos (by omega)]; omega
    · split
      · by_cases h2 : D i < D k
        · rw [if_pos h2]; omega
        · rw [if_neg h2, if_pos (by omega)]; omega
      · have := (bfT_in D k i).1
        unfold bfT at this
        exact this
  · show bfT D j j < bfT D k j
    unfold bfT
    rw [if_neg (by omega), if_neg (by omega)]
    split
    · omega
    · rw [if_pos (by omega)]; omega
theorem bef_inj (D : Int → Int) {P j k : Int} (j0 : 0 ≤ j) (j1 : j < P) (k0 : 0 ≤ k) (k1 : k < P) (h : bef D P j = bef D P k) : j = k := by
  refine Classical.byContradiction fun hn => ?_
  by_cases h1 : D j < D k ∨ (D j = D k ∧ j < k)
  · have := bef_lt D j0 j1 h1; omega
  · have := bef_lt D k0 k1 (k := j) (by omega); omega
theorem bef_onto (D : Int → Int) {P r : Int} (r0 : 0 ≤ r) (r1 : r < P) : ∃ k : Int, 0 ≤ k ∧ k < P ∧ bef D P k = r := inj_onto (f := bef D P) (fun k k0 k1 => bef_in D k0 k1) (fun j k j0 j1 k0 k1 => bef_inj D j0 j1 k0 k1) r0 r1
theorem bef_cg {D F : Int → Int} {P k : Int} (k0 : 0 ≤ k) (k1 : k < P) (hD : ∀ i : Int, 0 ≤ i → i < P → D i ≤ 1000000) (hF : ∀ i : Int, 0 ≤ i → i < P → F i = nv (D i)) : bef F P k = bef D P k := by
  unfold bef
  refine sF_cg _ _ (fun i i0 i1 => ?_)
  have e1 := hD i i0 (by omega)
  have e2 := hD k k0 k1
  unfold bfT
  rw [hF i i0 (by omega), hF k k0 k1]
  unfold nv
  by_cases c1 : D i = 1000000 <;> by_cases c2 : D k = 1000000 <;> simp only [c1, c2, if_true, if_false]
  all_goals
    repeat' split
    all_goals omega
