/-! The parser: what both read off the text. -/
def hx (T : Int → Int) (m j : Int) : Int := if 0 ≤ j ∧ j < m then T j else -1
def dE (x : Int → Int) : Nat → Int → Int
  | 0, a => a
  | k + 1, a => if 48 ≤ x a ∧ x a ≤ 57 then dE x k (a + 1) else a
def dV (x : Int → Int) : Nat → Int → Int → Int
  | 0, _, v => v
  | k + 1, a, v => dV x k (a + 1) (v * 10 + (x a - 48))
/-- most digits of a sign -/
def mst (c : Int) : Nat := if c = 57 then 1 else 3
def wk (x : Int → Int) : List Int → Int → Int × Bool × List Int
  | [], a => (a, true, [])
  | c :: L, a => if c = 57 ∨ c = 35 then (if dE x (mst c) a = a then (a, false, []) else ((wk x L (dE x (mst c) a)).1, (wk x L (dE x (mst c) a)).2.1, dV x (dE x (mst c) a - a).toNat a 0 :: (wk x L (dE x (mst c) a)).2.2)) else if x a = c then wk x L (a + 1) else (a, false, [])
theorem wk_d {x : Int → Int} {c : Int} {L : List Int} {a : Int} (hc : c = 57 ∨ c = 35) (h : dE x (mst c) a ≠ a) : wk x (c :: L) a = ((wk x L (dE x (mst c) a)).1, (wk x L (dE x (mst c) a)).2.1, dV x (dE x (mst c) a - a).toNat a 0 :: (wk x L (dE x (mst c) a)).2.2) := by
  rw [wk, if_pos hc, if_neg h]
theorem wk_dn {x : Int → Int} {c : Int} {L : List Int} {a : Int} (hc : c = 57 ∨ c = 35) (h : dE x (mst c) a = a) : wk x (c :: L) a = (a, false, []) := by
  rw [wk, if_pos hc, if_pos h]
theorem wk_l {x : Int → Int} {c : Int} {L : List Int} {a : Int} (hc : ¬ (c = 57 ∨ c = 35)) (h : x a = c) : wk x (c :: L) a = wk x L (a + 1) := by
  rw [wk, if_neg hc, if_pos h]
theorem wk_ln {x : Int → Int} {c : Int} {L : List Int} {a : Int} (hc : ¬ (c = 57 ∨ c = 35)) (h : x a ≠ c) : wk x (c :: L) a = (a, false, []) := by
  rw [wk, if_neg hc, if_neg h]
theorem dE_in {T : Int → Int} {m : Int} : ∀ (k : Nat) (a : Int), 0 ≤ a → a ≤ m → a ≤ dE (hx T m) k a ∧ dE (hx T m) k a ≤ a + k ∧ dE (hx T m) k a ≤ m := by
  intro k
  induction k with
  | zero => intro a a0 a1; unfold dE; omega
  | succ k ih =>
    intro a a0 a1
    unfold dE
    split
    · next h =>
      have h1 : a < m := by
        refine Classical.byContradiction fun hc => ?_
        unfold hx at h
        rw [if_neg (by omega)] at h
        omega
      have := ih (a + 1) (by omega) (by omega)
      omega
    · omega
theorem wk_in {T : Int → Int} {m : Int} : ∀ (L : List Int) (a : Int), (∀ c, c ∈ L → 0 ≤ c) → 0 ≤ a → a ≤ m → a ≤ (wk (hx T m) L a).1 ∧ (wk (hx T m) L a).1 ≤ m := by
  intro L
  induction L with
  | nil => intro a _ a0 a1; exact ⟨Int.le_refl a, a1⟩
  | cons c L ih =>
    intro a hL a0 a1
    have hL2 : ∀ d, d ∈ L → 0 ≤ d := fun d hd => hL d (List.mem_cons_of_mem _ hd)
    by_cases hc : c = 57 ∨ c = 35
    · by_cases h : dE (hx T m) (mst c) a = a
      · rw [wk_dn hc h]; exact ⟨Int.le_refl a, a1⟩
      · rw [wk_d hc h]
        have h1 := dE_in (T := T) (m := m) (mst c) a a0 a1
        have h2 := ih (dE (hx T m) (mst c) a) hL2 (by omega) (by omega)
        exact ⟨by show a ≤ (wk (hx T m) L (dE (hx T m) (mst c) a)).1; omega, h2.2⟩
    · by_cases h : hx T m a = c
      · rw [wk_l hc h]
        have h1 : a < m := by
          refine Classical.byContradiction fun hn => ?_
          unfold hx at h
          rw [if_neg (by omega)] at h
          have := hL c (List.mem_cons_self)
          omega
        have h2 := ih (a + 1) hL2 (by omega) (by omega)
        omega
      · rw [wk_ln hc h]; exact ⟨Int.le_refl a, a1⟩
/-- the numbers of a form -/
def nD : List Int → Nat
  | [] => 0
  | c :: L => if c = 57 ∨ c = 35 then nD L + 1 else nD L
theorem wk_nD {x : Int → Int} : ∀ (L : List Int) (a : Int), (wk x L a).2.1 = true → (wk x L a).2.2.length = nD L := by
  intro L
  induction L with
  | nil => intro a _; rfl
  | cons c L ih =>
    intro a h
    by_cases hc : c = 57 ∨ c = 35
    · by_cases h1 : dE x (mst c) a = a
      · rw [wk_dn hc h1] at h; cases h
      · rw [wk_d hc h1] at h ⊢
        rw [nD, if_pos hc, ← ih _ h]; rfl
    · by_cases h1 : x a = c
      · rw [wk_l hc h1] at h ⊢
        rw [nD, if_neg hc]; exact ih _ h
      · rw [wk_ln hc h1] at h; cases h
/-- how far a word goes -/
def lkL (x : Int → Int) : List Int → Int → Int
  | [], _ => 0
  | c :: L, a => if x a = c then 1 + lkL x L (a + 1) else 0
theorem lkL_in {x : Int → Int} : ∀ (L : List Int) (a : Int), 0 ≤ lkL x L a ∧ lkL x L a ≤ L.length := by
  intro L
  induction L with
  | nil => intro a; exact ⟨Int.le_refl 0, Int.le_refl 0⟩
  | cons c L ih =>
    intro a
    have := ih (a + 1)
    unfold lkL
    rw [List.length_cons]
    split <;> omega
theorem lkL_at {x : Int → Int} : ∀ (L : List Int) (a : Int) (i : Nat), (i : Int) < lkL x L a → x (a + i) = L.getD i 0 := by
  intro L
  induction L with
  | nil => intro a i h; unfold lkL at h; omega
  | cons c L ih =>
    intro a i h
    unfold lkL at h
    split at h
    · next hc =>
      cases i with
      | zero => rw [show a + ((0 : Nat) : Int) = a by omega, hc]; rfl
      | succ i =>
        have := ih (a + 1) i (by omega)
        rw [show a + ((i + 1 : Nat) : Int) = a + 1 + i by omega, this]; rfl
    · omega
theorem wk_app {x : Int → Int} (R : List Int) : ∀ (W : List Int) (a : Int), (∀ c, c ∈ W → ¬ (c = 57 ∨ c = 35)) → wk x (W ++ R) a = if lkL x W a = W.length then wk x R (a + W.length) else (a + lkL x W a, false, []) := by
  intro W
  induction W with
  | nil =>
    intro a _
    rw [if_pos (show lkL x [] a = (([] : List Int).length : Int) from rfl)]
    show wk x R a = wk x R (a + ((0 : Nat) : Int))
    rw [show a + ((0 : Nat) : Int) = a by omega]
  | cons c W ih =>
    intro a hW
    have hc := hW c List.mem_cons_self
    have h2 := ih (a + 1) (fun d hd => hW d (List.mem_cons_of_mem _ hd))
    have h3 := lkL_in (x := x) W (a + 1)
    rw [List.cons_append, List.length_cons]
    by_cases h : x a = c
    · rw [wk_l hc h, h2]
      have h4 : lkL x (c :: W) a = 1 + lkL x W (a + 1) := by rw [lkL, if_pos h]
      rw [h4]
      by_cases h5 : lkL x W (a + 1) = W.length
      · rw [if_pos h5, if_pos (by omega), show a + 1 + (W.length : Int) = a + ((W.length + 1 : Nat) : Int) by omega]
      · rw [if_neg h5, if_neg (by omega), Int.add_assoc]
    · rw [wk_ln hc h]
      have h4 : lkL x (c :: W) a = 0 := by rw [lkL, if_neg h]
      rw [h4, if_neg (by omega), Int.add_zero]
/-- the words, what comes behind them -/
def wd (k : Nat) : List Int := ([[112, 108, 97, 99, 101], [108, 105, 110, 107, 32], [98, 108, 111, 99, 107, 32], [111, 112, 101, 110, 32], [112, 111, 115, 116, 32], [115, 101, 110, 100, 32], [115, 116, 97, 109, 112, 32], [114, 101, 116, 117, 114, 110, 32], [100, 105, 115, 112, 97, 116, 99, 104], [104, 111, 117, 114, 115]] : List (List Int)).getD k []
def rs (k : Nat) : List Int := ([[], [57, 57, 32, 57, 47, 57], [35], [35], [57, 57, 32, 57, 42, 35], [35, 32, 35], [35, 32, 35], [35], [], [32, 35]] : List (List Int)).getD k []
theorem cst_wd : ∀ k, k < 10 → cst k = wd k ++ rs k := by decide +kernel
theorem cst_wd10 : cst 10 = wd 9 ++ [] := by decide +kernel
theorem wd_lit : ∀ k, k < 10 → ∀ c, c ∈ wd k → ¬ (c = 57 ∨ c = 35) := by decide +kernel
theorem wd_len : ∀ k, k < 10 → 5 ≤ (wd k).length ∧ (wd k).length ≤ 8 := by decide +kernel
theorem cst_pos : ∀ k, k < 11 → ∀ c, c ∈ cst k → 0 ≤ c := by decide +kernel
theorem rs_pos : ∀ k, k < 10 → ∀ c, c ∈ rs k → 0 ≤ c := by decide +kernel
theorem wd_free : ∀ j, j < 10 → ∀ w, w < 10 → j ≠ w → ∃ i, i < 9 ∧ i < (wd j).length ∧ i < (wd w).length ∧ (wd j).getD i 0 ≠ (wd w).getD i 0 := by decide +kernel
abbrev lk (x : Int → Int) (s : Int) (k : Nat) : Int := lkL x (wd k) s
/-- the word that fits best, the first of several -/
def am (x : Int → Int) (s : Int) : Nat → Nat → Nat → Nat
  | 0, _, w => w
  | n + 1, k, w => am x s n (k + 1) (if lk x s w < lk x s k then k else w)
theorem am_in (x : Int → Int) (s : Int) : ∀ (n k w : Nat), w < k → k + n = 10 → am x s n k w < 10 ∧ lk x s w ≤ lk x s (am x s n k w) ∧ ∀ j, k ≤ j → j < 10 → lk x s j ≤ lk x s (am x s n k w) := by
  intro n
  induction n with
  | zero => intro k w h1 h2; unfold am; exact ⟨by omega, Int.le_refl _, fun j j0 j1 => by omega⟩
  | succ n ih =>
    intro k w h1 h2
    unfold am
    split
    · next h =>
      obtain ⟨e1, e2, e3⟩ := ih (k + 1) k (by omega) (by omega)
      exact ⟨e1, by omega, fun j j0 j1 => by
        by_cases e : j = k
        · rw [e]; exact e2
        · exact e3 j (by omega) j1⟩
    · next h =>
      obtain ⟨e1, e2, e3⟩ := ih (k + 1) w (by omega) (by omega)
      exact ⟨e1, e2, fun j j0 j1 => by
        by_cases e : j = k
        · rw [e]; omega
        · exact e3 j (by omega) j1⟩
def bw (x : Int → Int) (s : Int) : Nat := am x s 9 1 0
theorem bw_in (x : Int → Int) (s : Int) : bw x s < 10 ∧ ∀ j, j < 10 → lk x s j ≤ lk x s (bw x s) := by
  obtain ⟨h1, h2, h3⟩ := am_in x s 9 1 0 (by omega) (by omega)
  refine ⟨h1, fun j hj => ?_⟩
  by_cases e : j = 0
  · rw [e]; exact h2
  · exact h3 j (by omega) hj
theorem lk_ne {x : Int → Int} {s : Int} {j w : Nat} (hj : j < 10) (hw : w < 10) (h : j ≠ w) (h1 : lk x s j = (wd j).length) : lk x s w < (wd j).length := by
  obtain ⟨i, -, i1, i2, i3⟩ := wd_free j hj w hw h
  refine Classical.byContradiction fun hc => i3 ?_
  rw [← lkL_at (x := x) (wd j) s i (by show (i : Int) < lk x s j; omega), ← lkL_at (x := x) (wd w) s i (by show (i : Int) < lk x s w; omega)]
/-- a command at s as the reference reads it: does it fit, which form, where it ends, its numbers -/
def rcW (x : Int → Int) (s : Int) : Nat := bw x s
def rc (x : Int → Int) (s : Int) : Int × Bool × List Int :=
  if lk x s (bw x s) = (wd (bw x s)).length then (if bw x s = 9 ∧ x (s + 5) ≠ 32 then (s + 5, true, []) else wk x (rs (bw x s)) (s + (wd (bw x s)).length)) else (s + lk x s (bw x s), false, [])
def rk (x : Int → Int) (s : Int) : Nat := if bw x s = 9 ∧ x (s + 5) ≠ 32 then 10 else bw x s
