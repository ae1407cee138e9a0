/-! The function side: what the functions f_ answer. Ints are written iZ z, z an Int. -/
def iZ (z : Int) : Int32 := Int32.ofInt z
theorem z_mk (x : Int32) : ∃ z : Int, x = iZ z ∧ -2147483648 ≤ z ∧ z ≤ 2147483647 := ⟨x.toInt, (Int32.ofInt_toInt x).symm, by have := Int32.le_toInt x; omega, by have := Int32.toInt_lt x; omega⟩
theorem z_toInt {a : Int} (h : -2147483648 ≤ a) (h2 : a ≤ 2147483647) : (iZ a).toInt = a := Int32.toInt_ofInt_of_le (by omega) (by omega)
theorem z_add (a b : Int) : iZ a + iZ b = iZ (a + b) := (Int32.ofInt_add a b).symm
theorem z_sub (a b : Int) : iZ a - iZ b = iZ (a - b) := (Int32.ofInt_sub a b).symm
theorem z_mul (a b : Int) : iZ a * iZ b = iZ (a * b) := (Int32.ofInt_mul a b).symm
theorem z_neg (a : Int) : -iZ a = iZ (-a) := (Int32.ofInt_neg a).symm
theorem z_le {a b : Int} (h : -2147483648 ≤ a) (h2 : a ≤ 2147483647) (h3 : -2147483648 ≤ b) (h4 : b ≤ 2147483647) : (iZ a ≤ iZ b) = (a ≤ b) := by
  rw [Int32.le_iff_toInt_le, z_toInt h h2, z_toInt h3 h4]
theorem z_lt {a b : Int} (h : -2147483648 ≤ a) (h2 : a ≤ 2147483647) (h3 : -2147483648 ≤ b) (h4 : b ≤ 2147483647) : (iZ a < iZ b) = (a < b) := by
  rw [Int32.lt_iff_toInt_lt, z_toInt h h2, z_toInt h3 h4]
theorem z_eq {a b : Int} (h : -2147483648 ≤ a) (h2 : a ≤ 2147483647) (h3 : -2147483648 ≤ b) (h4 : b ≤ 2147483647) : (iZ a = iZ b) = (a = b) := by
  rw [← Int32.toInt_inj, z_toInt h h2, z_toInt h3 h4]
theorem z_ix {a : Int} (h : -2147483648 ≤ a) (h2 : a ≤ 2147483647) : ix (iZ a) = a.toNat := Int32.toNatClampNeg_ofInt_of_le (by omega) (by omega)
theorem z_vin {a : Int} {n : Nat} (h : 0 ≤ a) (h2 : a ≤ 2147483647) (h3 : a < n) : vin (iZ a) n = True := by
  refine eq_true ?_
  unfold vin
  rw [show (0 : Int32) = iZ 0 from rfl, z_lt (by omega) h2 (by omega) (by omega), show (iZ a).toNatClampNeg = a.toNat from z_ix (by omega) h2]
  omega
theorem z_div {a b : Int} (h : 0 ≤ a) (h2 : a ≤ 2147483647) (h3 : 0 < b) (h4 : b ≤ 2147483647) : iZ a / iZ b = iZ (a / b) := by
  unfold iZ
  rw [← Int32.ofInt_tdiv (by show (-2147483648 : Int) ≤ _; omega) (by show _ ≤ (2147483647 : Int); omega) (by show (-2147483648 : Int) ≤ _; omega) (by show _ ≤ (2147483647 : Int); omega), Int.tdiv_eq_ediv_of_nonneg h]
theorem z_rem {a b : Int} (h : 0 ≤ a) (h2 : a ≤ 2147483647) (h3 : 0 < b) (h4 : b ≤ 2147483647) : iZ a - iZ a / iZ b * iZ b = iZ (a % b) := by
  rw [z_div h h2 h3 h4, z_mul, z_sub, Int.emod_def, Int.mul_comm]
theorem zc_0 : (0 : Int32) = iZ 0 := rfl
theorem zc_1 : (1 : Int32) = iZ 1 := rfl
theorem zc_2 : (2 : Int32) = iZ 2 := rfl
theorem zc_3 : (3 : Int32) = iZ 3 := rfl
theorem zc_4 : (4 : Int32) = iZ 4 := rfl
theorem zc_5 : (5 : Int32) = iZ 5 := rfl
theorem zc_6 : (6 : Int32) = iZ 6 := rfl
theorem zc_7 : (7 : Int32) = iZ 7 := rfl
theorem zc_8 : (8 : Int32) = iZ 8 := rfl
theorem zc_9 : (9 : Int32) = iZ 9 := rfl
theorem zc_10 : (10 : Int32) = iZ 10 := rfl
theorem zc_12 : (12 : Int32) = iZ 12 := rfl
theorem zc_20 : (20 : Int32) = iZ 20 := rfl
theorem zc_32 : (32 : Int32) = iZ 32 := rfl
theorem zc_48 : (48 : Int32) = iZ 48 := rfl
theorem zc_57 : (57 : Int32) = iZ 57 := rfl
theorem zc_60 : (60 : Int32) = iZ 60 := rfl
theorem zc_80 : (80 : Int32) = iZ 80 := rfl
theorem zc_108 : (108 : Int32) = iZ 108 := rfl
theorem zc_120 : (120 : Int32) = iZ 120 := rfl
theorem zc_185 : (185 : Int32) = iZ 185 := rfl
theorem zc_192 : (192 : Int32) = iZ 192 := rfl
theorem zc_1344 : (1344 : Int32) = iZ 1344 := rfl
theorem zc_9999 : (9999 : Int32) = iZ 9999 := rfl
theorem zc_FAR : (1000000 : Int32) = iZ 1000000 := rfl
theorem zc_NEV : (2147483647 : Int32) = iZ 2147483647 := rfl
theorem zc_m1 : (-1 : Int32) = iZ (-1) := rfl
theorem toNat_cast {a : Int} (h : 0 ≤ a) : ((a.toNat : Nat) : Int) = a := Int.toNat_of_nonneg h
theorem ite_T {α : Sort _} (A B : α) : (if True then A else B) = A := if_pos trivial
theorem ite_F {α : Sort _} (A B : α) : (if False then A else B) = B := if_neg id
theorem bd_s {α β : Type} (a : α) (k : α → Option β) : bd (some a) k = k a := of_eq_true (eq_self _)
theorem nm_s {α β : Type} (a : α) (k : α → Option β) : nm a k = k a := of_eq_true (eq_self _)
/-- an Int row -/
def rz (A : Int → Int) : Nat → Int32 := fun k => iZ (A k)
theorem rz_z {A : Int → Int} {e : Int} (h : 0 ≤ e) : rz A e.toNat = iZ (A e) := by unfold rz; rw [Int.toNat_of_nonneg h]
def uI (A : Int → Int) (e v : Int) : Int → Int := fun k => if k = e then v else A k
theorem uI_eq (A : Int → Int) (e v : Int) : uI A e v e = v := if_pos rfl
theorem uI_ne (A : Int → Int) (v : Int) {e k : Int} (h : k ≠ e) : uI A e v k = A k := if_neg h
theorem upd_rz (A : Int → Int) {e v : Int} (h : 0 ≤ e) : upd (rz A) e.toNat (iZ v) = rz (uI A e v) := by
  funext k
  unfold upd rz uI
  by_cases hk : k = e.toNat
  · rw [if_pos hk, if_pos (by omega)]
  · rw [if_neg hk, if_neg (by omega)]
/-- a sum of n terms from i on -/
def sF (f : Int → Int) : Nat → Int → Int
  | 0, _ => 0
  | n + 1, i => f i + sF f n (i + 1)
theorem mu_at (M : Mem) (a i k : Nat) (v : Int32) (b j l : Nat) : mu M a i k v b j l = if b = a ∧ j = i ∧ l = k then v else M b j l := by
  unfold mu upd
  by_cases h : b = a ∧ j = i
  · obtain ⟨rfl, rfl⟩ := h
    simp
  · rw [if_neg h, if_neg (fun h2 => h ⟨h2.1, h2.2.1⟩)]
/-- a row of ours set whole -/
def mR (M : Mem) (a i : Nat) (A : Int → Int) : Mem := fun b j => if b = a ∧ j = i then rz A else M b j
theorem mR_at (M : Mem) (a i : Nat) (A : Int → Int) : mR M a i A a i = rz A := if_pos ⟨rfl, rfl⟩
theorem mR_ne (M : Mem) {a i b j : Nat} (A : Int → Int) (h : ¬ (b = a ∧ j = i)) : mR M a i A b j = M b j := if_neg h
theorem mu_mR (M : Mem) (a i : Nat) (A : Int → Int) {e v : Int} (h : 0 ≤ e) : mu (mR M a i A) a i e.toNat (iZ v) = mR M a i (uI A e v) := by
  funext b j
  unfold mu
  by_cases hb : b = a ∧ j = i
  · rw [if_pos hb, mR_at, upd_rz A h]; obtain ⟨rfl, rfl⟩ := hb; rw [mR_at]
  · rw [if_neg hb, mR_ne M _ hb, mR_ne M _ hb]
theorem mR_self (M : Mem) (a i : Nat) : ∃ A : Int → Int, (∀ k, -2147483648 ≤ A k ∧ A k ≤ 2147483647) ∧ M a i = rz A ∧ M = mR M a i A := by
  have h : M a i = rz (fun k => (M a i k.toNat).toInt) := by
    funext k
    show M a i k = Int32.ofInt (M a i ((k : Int).toNat)).toInt
    rw [Int.toNat_natCast, Int32.ofInt_toInt]
  refine ⟨_, fun k => ⟨?_, ?_⟩, h, ?_⟩
  · have := Int32.le_toInt (M a i k.toNat); omega
  · have := Int32.toInt_lt (M a i k.toNat); omega
  · funext b j
    unfold mR
    split
    · next hb => obtain ⟨rfl, rfl⟩ := hb; exact h
    · rfl
theorem lg_lt {x y : Int} (h : -2147483648 ≤ x) (h2 : x ≤ 2147483647) (h3 : -2147483648 ≤ y) (h4 : y ≤ 2147483647) : (lg_cmp (iZ x).toInt64 (iZ y).toInt64 < 0) = (x < y) := by
  have hx : (iZ x).toInt64.toInt = x := by rw [Int32.toInt_toInt64, z_toInt h h2]
  have hy : (iZ y).toInt64.toInt = y := by rw [Int32.toInt_toInt64, z_toInt h3 h4]
  unfold lg_cmp
  by_cases h1 : x > y
  · rw [if_pos (Int64.lt_iff_toInt_lt.mpr (by rw [hx, hy]; exact h1))]
    exact propext ⟨fun h => absurd h (by decide), fun h => by omega⟩
  · rw [if_neg (fun hc => h1 (by have := Int64.lt_iff_toInt_lt.mp hc; rw [hx, hy] at this; exact this))]
    by_cases h5 : x = y
    · subst h5
      rw [if_pos rfl]
      exact propext ⟨fun h => absurd h (by decide), fun h => by omega⟩
    · rw [if_neg (fun hc => h5 (by rw [← hx, ← hy, hc]))]
      exact propext ⟨fun _ => by omega, fun _ => by decide⟩
theorem lg_gt {x y : Int} (h : -2147483648 ≤ x) (h2 : x ≤ 2147483647) (h3 : -2147483648 ≤ y) (h4 : y ≤ 2147483647) : (0 < lg_cmp (iZ x).toInt64 (iZ y).toInt64) = (y < x) := by
  have hx : (iZ x).toInt64.toInt = x := by rw [Int32.toInt_toInt64, z_toInt h h2]
  have hy : (iZ y).toInt64.toInt = y := by rw [Int32.toInt_toInt64, z_toInt h3 h4]
  unfold lg_cmp
  by_cases h1 : x > y
  · rw [if_pos (Int64.lt_iff_toInt_lt.mpr (by rw [hx, hy]; exact h1))]
    exact propext ⟨fun _ => h1, fun _ => by decide⟩
  · rw [if_neg (fun hc => h1 (by have := Int64.lt_iff_toInt_lt.mp hc; rw [hx, hy] at this; exact this))]
    by_cases h5 : x = y
    · subst h5
      rw [if_pos rfl]
      exact propext ⟨fun h => absurd h (by decide), fun h => by omega⟩
    · rw [if_neg (fun hc => h5 (by rw [← hx, ← hy, hc]))]
      exact propext ⟨fun h => absurd h (by decide), fun h => by omega⟩
theorem lg_refl (x : Int64) : lg_cmp x x = 0 := by
  unfold lg_cmp
  rw [if_neg (by intro h; have := Int64.lt_iff_toInt_lt.mp h; omega), if_pos rfl]
