theorem bd2_s {α γ : Type} (a : α) (b : Mem) (k : α → Mem → Option γ) : bd2 (some (a, b)) k = k a b := of_eq_true (eq_self _)
theorem lk_s {β : Type} (M : Mem) (x : Int32) (k : Int32 → Option β) : bd (f_X8_linkAt M x) k = k ((8 : Int32) + ((5 : Int32) * x)) := of_eq_true (eq_self _)
theorem pc_s {β : Type} (M : Mem) (x : Int32) (k : Int32 → Option β) : bd (f_X8_parcelAt M x) k = k ((108 : Int32) + ((7 : Int32) * x)) := of_eq_true (eq_self _)
theorem il_t {a b : Int} (h : a ≤ b) : (a ≤ b) = True := eq_true h
theorem il_f {a b : Int} (h : b < a) : (a ≤ b) = False := eq_false (by omega)
theorem ilt_t {a b : Int} (h : a < b) : (a < b) = True := eq_true h
theorem ilt_f {a b : Int} (h : b ≤ a) : (a < b) = False := eq_false (by omega)
theorem ieq_t {a b : Int} (h : a = b) : (a = b) = True := eq_true h
theorem ieq_f {a b : Int} (h : a ≠ b) : (a = b) = False := eq_false h
theorem nlt_t {a b : Nat} (h : a < b) : (a < b) = True := eq_true h
theorem bdq {α β : Type} {x : Option α} {a : α} (h : x = some a) (k : α → Option β) : bd x k = k a := by rw [h]; rfl
/-- what is the same before and after, all but what P says -/
def Fr (P : Nat → Nat → Nat → Prop) (M M2 : Mem) : Prop := ∀ a i k, ¬ P a i k → M2 a i k = M a i k
theorem Fr.rfl' {P : Nat → Nat → Nat → Prop} (M : Mem) : Fr P M M := fun _ _ _ _ => rfl
theorem Fr.tr {P : Nat → Nat → Nat → Prop} {M M2 M3 : Mem} (h : Fr P M M2) (h2 : Fr P M2 M3) : Fr P M M3 := fun a i k hp => (h2 a i k hp).trans (h a i k hp)
theorem Fr.mono {P Q : Nat → Nat → Nat → Prop} {M M2 : Mem} (h : Fr P M M2) (hPQ : ∀ a i k, P a i k → Q a i k) : Fr Q M M2 := fun a i k hq => h a i k (fun hp => hq (hPQ a i k hp))
theorem Fr.mu {P : Nat → Nat → Nat → Prop} (M : Mem) {a i k : Nat} (v : Int32) (h : P a i k) : Fr P M (mu M a i k v) := by
  intro b j l hp
  rw [mu_at, if_neg (fun hc => hp (by obtain ⟨rfl, rfl, rfl⟩ := hc; exact h))]
/-- what of a state the numbers of parcels are: a load, blocked links, a place's links, who waits -/
def lnk (A : Int → Int) (k : Int) : Prop := 0 ≤ A (8 + 5 * k) ∧ A (8 + 5 * k) < A 0 ∧ 0 ≤ A (8 + 5 * k + 1) ∧ A (8 + 5 * k + 1) < A 0 ∧ 1 ≤ A (8 + 5 * k + 2) ∧ A (8 + 5 * k + 2) ≤ 9 ∧ 0 ≤ A (8 + 5 * k + 3) ∧ A (8 + 5 * k + 3) ≤ 5 ∧ 0 ≤ A (8 + 5 * k + 4) ∧ A (8 + 5 * k + 4) ≤ 1
def pcl (A : Int → Int) (h k : Int) : Prop := 0 ≤ A (108 + 7 * k) ∧ A (108 + 7 * k) < A 3 ∧ 0 ≤ A (108 + 7 * k + 1) ∧ A (108 + 7 * k + 1) < A 0 ∧ 1 ≤ A (108 + 7 * k + 2) ∧ A (108 + 7 * k + 2) ≤ 9 ∧ 0 ≤ A (108 + 7 * k + 3) ∧ A (108 + 7 * k + 3) ≤ 20 ∧
  ((0 ≤ A (108 + 7 * k + 4) ∧ A (108 + 7 * k + 4) < A 0 ∧ A (108 + 7 * k + 5) = -1 ∧ A (108 + 7 * k + 4) ≠ A (108 + 7 * k + 1)) ∨ (A (108 + 7 * k + 4) = -1 ∧ 0 ≤ A (108 + 7 * k + 5) ∧ A (108 + 7 * k + 5) < A 1 ∧ 0 ≤ A (108 + 7 * k + 6) ∧ A (108 + 7 * k + 6) ≤ h + 9))
def sLoad (A : Int → Int) (l : Int) : Int := sF (fun k => if A (108 + 7 * k + 5) = l then A (108 + 7 * k + 2) else 0) (A 2).toNat 0
/-- a state's array: p at least its next id, h at least its hour -/
def Ok (p h : Int) (A : Int → Int) : Prop := 0 ≤ A 0 ∧ A 0 ≤ 9 ∧ 0 ≤ A 1 ∧ A 1 ≤ 20 ∧ 0 ≤ A 2 ∧ A 2 ≤ 12 ∧ 0 ≤ A 3 ∧ A 3 ≤ p ∧ 0 ≤ A 4 ∧ A 4 ≤ h ∧ A 3 = A 2 + A 5 + A 6 ∧
  (∀ k, 0 ≤ k → k < A 1 → lnk A k) ∧ (∀ k, A 1 ≤ k → k < 20 → A (8 + 5 * k + 4) = 0) ∧ (∀ k, 0 ≤ k → k < A 2 → pcl A h k) ∧ (∀ k, 0 ≤ k → k < A 1 → sLoad A k ≤ 10)
/-- the row of a service's parcels -/
def Rw (M : Mem) (s : Nat) : Prop := (∀ k : Int, 0 ≤ k → k < 12 → 12 * s ≤ ix (M 5 s k.toNat) ∧ ix (M 5 s k.toNat) < 12 * s + 12) ∧ ∀ j k : Int, 0 ≤ j → j < 12 → 0 ≤ k → k < 12 → ix (M 5 s j.toNat) = ix (M 5 s k.toNat) → j = k
/-- where a parcel waits, or where its link ends -/
def sAt (A : Int → Int) (k : Int) : Int := if A (108 + 7 * k + 4) = -1 then A (8 + 5 * A (108 + 7 * k + 5) + 1) else A (108 + 7 * k + 4)
/-- a service of the class holds a state's array -/
def Cl (M : Mem) (s : Nat) (A : Int → Int) : Prop := M 2 s 1 = iZ (A 0) ∧ M 2 s 2 = iZ (A 1) ∧ M 1 s 3 = iZ (A 2) ∧ M 1 s 5 = iZ (A 3) ∧ M 1 s 4 = iZ (A 4) ∧ M 1 s 6 = iZ (A 5) ∧ M 1 s 7 = iZ (A 6) ∧ M 1 s 8 = iZ (A 7) ∧
  (∀ k : Int, 0 ≤ k → k < A 1 → M 4 (20 * s + k.toNat) 0 = iZ (A (8 + 5 * k)) ∧ M 4 (20 * s + k.toNat) 1 = iZ (A (8 + 5 * k + 1)) ∧ M 4 (20 * s + k.toNat) 2 = iZ (A (8 + 5 * k + 2)) ∧ M 4 (20 * s + k.toNat) 3 = iZ (A (8 + 5 * k + 3)) ∧ M 4 (20 * s + k.toNat) 4 = iZ (A (8 + 5 * k + 4))) ∧
  (∀ k : Int, 0 ≤ k → k < A 2 → M 6 (ix (M 5 s k.toNat)) 0 = iZ (A (108 + 7 * k)) ∧ M 6 (ix (M 5 s k.toNat)) 1 = iZ (A (108 + 7 * k + 2)) ∧ M 6 (ix (M 5 s k.toNat)) 2 = iZ (A (108 + 7 * k + 3)) ∧ M 6 (ix (M 5 s k.toNat)) 3 = iZ (A (108 + 7 * k + 1)) ∧ M 6 (ix (M 5 s k.toNat)) 4 = iZ (sAt A k) ∧ M 6 (ix (M 5 s k.toNat)) 5 = iZ (A (108 + 7 * k + 5)) ∧ (A (108 + 7 * k + 4) = -1 → M 6 (ix (M 5 s k.toNat)) 6 = iZ (A (108 + 7 * k + 6))))
/-- the numbers' room -/
def Rm (p h : Int) : Prop := p ≤ 6000 ∧ h ≤ 700000
theorem sAt_in {p h : Int} {A : Int → Int} (hO : Ok p h A) {k : Int} (h0 : 0 ≤ k) (h1 : k < A 2) : 0 ≤ sAt A k ∧ sAt A k < A 0 := by
  obtain ⟨-, -, -, -, -, -, -, -, -, -, -, hl, -, hp, -⟩ := hO
  have hk := hp k h0 h1
  unfold pcl at hk
  unfold sAt
  split
  · have := hl (A (108 + 7 * k + 5)) (by omega) (by omega)
    unfold lnk at this
    omega
  · omega
theorem sF_nn {f : Int → Int} : ∀ (n : Nat) (i : Int), (∀ k, i ≤ k → k < i + n → 0 ≤ f k) → 0 ≤ sF f n i := by
  intro n
  induction n with
  | zero => intro i _; exact Int.le_refl 0
  | succ n ih =>
    intro i h
    have h1 := h i (by omega) (by omega)
    have h2 := ih (i + 1) (fun k a b => h k (by omega) (by omega))
    unfold sF
    omega
theorem sF_le {f : Int → Int} {b : Int} : ∀ (n : Nat) (i : Int), (∀ k, i ≤ k → k < i + n → f k ≤ b) → sF f n i ≤ b * n := by
  intro n
  induction n with
  | zero => intro i _; simp [sF]
  | succ n ih =>
    intro i h
    have h1 := h i (by omega) (by omega)
    have h2 := ih (i + 1) (fun k a b => h k (by omega) (by omega))
    have h3 : b * (↑(n + 1) : Int) = b * (n : Int) + b := by rw [Int.natCast_succ, Int.mul_add, Int.mul_one]
    unfold sF
    omega
theorem sF_cg {f g : Int → Int} : ∀ (n : Nat) (i : Int), (∀ k, i ≤ k → k < i + n → f k = g k) → sF f n i = sF g n i := by
  intro n
  induction n with
  | zero => intro i _; rfl
  | succ n ih =>
    intro i h
    unfold sF
    rw [h i (by omega) (by omega), ih (i + 1) (fun k a b => h k (by omega) (by omega))]
