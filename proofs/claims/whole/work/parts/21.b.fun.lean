def uA (A : Int → Int) (k : Int) : Prop := A (8 + 5 * k + 4) = 0
def gT (A : Int → Int) (k t : Int) : Int := t + (if t % 6 = A (8 + 5 * k + 3) then 1 else 0) + A (8 + 5 * k + 2)
def gO (_ t : Int) : Int := t + 1
def sA (A : Int → Int) (k : Int) : Int := A (8 + 5 * k)
def dA (A : Int → Int) (k : Int) : Int := A (8 + 5 * k + 1)
abbrev FARi : Int := 1000000
def EaT (A : Int → Int) (o t v e : Int) : Prop := Ea (A 1) (sA A) (dA A) (uA A) (gT A) o t 1000000 v e
def EaS (A : Int → Int) (o v e : Int) : Prop := Ea (A 1) (sA A) (dA A) (uA A) gO o 0 1000000 v e
noncomputable def eT (A : Int → Int) (o t v : Int) : Int := Classical.epsilon (fun e => EaT A o t v e)
noncomputable def eS (A : Int → Int) (o v : Int) : Int := Classical.epsilon (fun e => EaS A o v e)
theorem Gr_T {p h : Int} {A : Int → Int} (hO : Ok p h A) : Gr (A 0) (A 1) 10 (sA A) (dA A) (gT A) := by
  obtain ⟨o1, o2, o3, o4, o5, o6, o7, o8, o9, o10, o11, ol, ob, op, oc⟩ := hO
  refine ⟨o2, by omega, fun k k0 k1 => ?_, fun k t k0 k1 => ?_, fun k t t2 k0 k1 ht => ?_⟩ <;> have hk := ol k k0 k1 <;> unfold lnk at hk
  · unfold sA dA; omega
  · unfold gT; split <;> omega
  · unfold gT; split <;> split <;> omega
theorem Gr_S {p h : Int} {A : Int → Int} (hO : Ok p h A) : Gr (A 0) (A 1) 1 (sA A) (dA A) gO := by
  obtain ⟨o1, o2, o3, o4, o5, o6, o7, o8, o9, o10, o11, ol, ob, op, oc⟩ := hO
  refine ⟨o2, by omega, fun k k0 k1 => ?_, fun k t k0 k1 => ?_, fun k t t2 k0 k1 ht => ?_⟩ <;> have hk := ol k k0 k1 <;> unfold lnk at hk
  · unfold sA dA; omega
  · unfold gO; omega
  · unfold gO; omega
abbrev IvT (A : Int → Int) (o t : Int) (D : Int → Int) : Prop := Iv (A 1) 10 (sA A) (dA A) (uA A) (gT A) o t 1000000 D
abbrev CdT (A : Int → Int) (D : Int → Int) : Prop := Cd (A 1) (sA A) (dA A) (uA A) (gT A) 1000000 D
theorem eT_spec {p h : Int} {A : Int → Int} (hO : Ok p h A) {o t v : Int} (ho : 0 ≤ o) (ho2 : o < A 0) (ht : t ≤ 900000) (h0 : 0 ≤ v) (h1 : v < 9) : EaT A o t v (eT A o t v) := by
  obtain ⟨D, -, -, h3⟩ := Ea_ex (u := uA A) (Gr_T hO) ho ho2 (F := 1000000) (h := t) (by omega)
  exact Classical.epsilon_spec (p := fun e => EaT A o t v e) ⟨_, h3 v h0 h1⟩
theorem eS_spec {p h : Int} {A : Int → Int} (hO : Ok p h A) {o v : Int} (ho : 0 ≤ o) (ho2 : o < A 0) (h0 : 0 ≤ v) (h1 : v < 9) : EaS A o v (eS A o v) := by
  obtain ⟨D, -, -, h3⟩ := Ea_ex (u := uA A) (Gr_S hO) ho ho2 (F := 1000000) (h := 0) (by omega)
  exact Classical.epsilon_spec (p := fun e => EaS A o v e) ⟨_, h3 v h0 h1⟩
theorem EaT.is {p h : Int} {A : Int → Int} (hO : Ok p h A) {o t v e : Int} (ho : 0 ≤ o) (ho2 : o < A 0) (ht : t ≤ 900000) (h0 : 0 ≤ v) (h1 : v < 9) (hE : EaT A o t v e) : e = eT A o t v := Ea.uniq hE (eT_spec hO ho ho2 ht h0 h1)
theorem EaS.is {p h : Int} {A : Int → Int} (hO : Ok p h A) {o v e : Int} (ho : 0 ≤ o) (ho2 : o < A 0) (h0 : 0 ≤ v) (h1 : v < 9) (hE : EaS A o v e) : e = eS A o v := Ea.uniq hE (eS_spec hO ho ho2 h0 h1)
theorem eT_le {p h : Int} {A : Int → Int} (hO : Ok p h A) {o t v : Int} (ho : 0 ≤ o) (ho2 : o < A 0) (ht : t ≤ 900000) (h0 : 0 ≤ v) (h1 : v < 9) : eT A o t v = 1000000 ∨ (t ≤ eT A o t v ∧ eT A o t v ≤ t + 80 ∧ eT A o t v < 1000000) := by
  obtain ⟨D, i1, -, h3⟩ := Ea_ex (u := uA A) (Gr_T hO) ho ho2 (F := 1000000) (h := t) (by omega)
  rw [← EaT.is hO ho ho2 ht h0 h1 (h3 v h0 h1)]
  have h5 := i1.2 v h0 h1
  by_cases hD : D v < 1000000
  · have := i1.top (by omega) h0 h1 hD
    have := h5.2 hD
    omega
  · omega
theorem eS_le {p h : Int} {A : Int → Int} (hO : Ok p h A) {o v : Int} (ho : 0 ≤ o) (ho2 : o < A 0) (h0 : 0 ≤ v) (h1 : v < 9) : eS A o v = 1000000 ∨ (0 ≤ eS A o v ∧ eS A o v ≤ 8) := by
  obtain ⟨D, i1, -, h3⟩ := Ea_ex (u := uA A) (Gr_S hO) ho ho2 (F := 1000000) (h := 0) (by omega)
  rw [← EaS.is hO ho ho2 h0 h1 (h3 v h0 h1)]
  have h5 := i1.2 v h0 h1
  by_cases hD : D v < 1000000
  · have := i1.top (by omega) h0 h1 hD
    have := h5.2 hD
    omega
  · omega
theorem uI_self (A : Int → Int) (e : Int) : uI A e (A e) = A := by
  funext k; unfold uI; split
  · next hk => rw [hk]
  · rfl
theorem mR_rd (M : Mem) (a i : Nat) (A : Int → Int) (b j : Nat) : mR M a i A b j = if b = a ∧ j = i then rz A else M b j := rfl
theorem Iv_cg {L c : Int} {s d : Int → Int} {u : Int → Prop} {g : Int → Int → Int} {o h F : Int} {D D2 : Int → Int} (ho : 0 ≤ o) (ho2 : o < 9) (hD : ∀ v, 0 ≤ v → v < 9 → D2 v = D v) (hI : Iv L c s d u g o h F D) : Iv L c s d u g o h F D2 := by
  have hcn : cN F D2 = cN F D := sF_cg 9 0 (fun k k0 k1 => by show (if D2 k < F then (1 : Int) else 0) = _; rw [hD k k0 (by omega)])
  refine ⟨by rw [hD o ho ho2]; exact hI.1, fun v v0 v1 => ?_⟩
  rw [hcn, hD v v0 v1]
  exact hI.2 v v0 v1
def sOpen (A : Int → Int) (k t : Int) : Int := if A (8 + 5 * k + 4) = 0 then if t % 6 = A (8 + 5 * k + 3) then 0 else 1 else 0
theorem g_X8_isOpen {p h : Int} {M : Mem} {A : Int → Int} (hO : Ok p h A) (hA : M 21 0 = rz A) {k t : Int} (k0 : 0 ≤ k) (k1 : k < A 1) (t0 : 0 ≤ t) (t1 : t ≤ 2000000) : f_X8_isOpen M (iZ k) (iZ t) = some (iZ (sOpen A k t)) := by
  obtain ⟨o1, o2, o3, o4, o5, o6, o7, o8, o9, o10, o11, ol, ob, op, oc⟩ := hO
  have hk := ol k k0 k1
  unfold lnk at hk
  unfold sOpen
  by_cases hb : A (8 + 5 * k + 4) = 0 <;> by_cases ht : t % 6 = A (8 + 5 * k + 3) <;> simp (disch := omega) only [f_X8_isOpen, hA, ↓reduceIte, ↓nm_s, ↓lk_s, ↓pc_s, z_add, z_sub, z_mul, z_neg, z_le, z_lt, z_eq, z_ix, z_vin, z_rem, zc_0, zc_1, zc_2, zc_3, zc_4, zc_5, zc_6, zc_7, zc_8, zc_9, zc_10, zc_12, zc_20, zc_60, zc_80, zc_108, zc_120, zc_185, zc_192, zc_1344, zc_9999, zc_FAR, zc_NEV, ite_T, ite_F, bd_s, bd2_s, rz_z, toNat_cast, mR_at, mR_ne, mu_mR, il_t, il_f, ilt_t, ilt_f, ieq_t, ieq_f, nlt_t]
set_option maxHeartbeats 4000000 in
theorem st_42 {M : Mem} {A D : Int → Int} (k33 : Mem → Int32 → Option Mem) (hA : M 21 0 = rz A) {i m s d w q b x y z : Int} (f : Nat) (i0 : 0 ≤ i) (i1 : i < A 1) (i2 : A 1 ≤ 20) (hs : A (8 + 5 * i) = s) (hd : A (8 + 5 * i + 1) = d) (hw : A (8 + 5 * i + 2) = w) (hb : A (8 + 5 * i + 4) = b) (s0 : 0 ≤ s) (s1 : s < 9) (d0 : 0 ≤ d) (d1 : d < 9) (w0 : 1 ≤ w) (w1 : w ≤ 9) (b0 : 0 ≤ b) (b1 : b ≤ 1)
    (hx : D s = x) (hy : D d = y) (x0 : 0 ≤ x) (x1 : x ≤ 1000000) (y0 : 0 ≤ y) (y1 : y ≤ 1000000) (hq : x < 1000000 → f_X8_isOpen (mR M 27 0 D) (iZ i) (iZ x) = some (iZ (1 - q))) (q0 : 0 ≤ q) (q1 : q ≤ 1) (m0 : 0 ≤ m) (m1 : m ≤ 1) (hz : z = x + q + w) :
    f_X8_reaches_42 k33 (f + 1) (mR M 27 0 D) (iZ m) (iZ i) = if x < 1000000 ∧ b = 0 ∧ z < y then f_X8_reaches_42 k33 f (mR M 27 0 (uI D d z)) (iZ 1) (iZ (i + 1)) else f_X8_reaches_42 k33 f (mR M 27 0 D) (iZ m) (iZ (i + 1)) := by
  by_cases hx1 : x < 1000000
  · have hq := hq hx1
    by_cases hb1 : b = 0
    · by_cases ht : z < y
      · rw [if_pos ⟨hx1, hb1, ht⟩]
        obtain rfl | rfl : q = 0 ∨ q = 1 := by omega
        all_goals
          obtain rfl | rfl : m = 0 ∨ m = 1 := by omega
          all_goals
            simp (disch := omega) only [f_X8_reaches_42, f_X8_reaches_186, f_X8_reaches_111, f_X8_reaches_147, f_X8_reaches_152, hA, rz_1, hs, hd, hw, hb, hx, hy, hq, ↓reduceIte, ↓nm_s, ↓lk_s, ↓pc_s, z_add, z_sub, z_mul, z_neg, z_le, z_lt, z_eq, z_ix, z_vin, z_rem, zc_0, zc_1, zc_2, zc_3, zc_4, zc_5, zc_6, zc_7, zc_8, zc_9, zc_10, zc_12, zc_20, zc_60, zc_80, zc_108, zc_120, zc_185, zc_192, zc_1344, zc_9999, zc_FAR, zc_NEV, ite_T, ite_F, bd_s, bd2_s, rz_z, toNat_cast, mR_at, mR_ne, mu_mR, il_t, il_f, ilt_t, ilt_f, ieq_t, ieq_f, nlt_t]
            rw [hz]
      · rw [if_neg (fun hc => ht hc.2.2)]
        have hself : uI D d y = D := by rw [← hy]; exact uI_self D d
        obtain rfl | rfl : q = 0 ∨ q = 1 := by omega
        all_goals
          obtain rfl | rfl : m = 0 ∨ m = 1 := by omega
          all_goals
            simp (disch := omega) only [f_X8_reaches_42, f_X8_reaches_186, f_X8_reaches_111, f_X8_reaches_147, f_X8_reaches_152, hA, rz_1, hs, hd, hw, hb, hx, hy, hq, hself, ↓reduceIte, ↓nm_s, ↓lk_s, ↓pc_s, z_add, z_sub, z_mul, z_neg, z_le, z_lt, z_eq, z_ix, z_vin, z_rem, zc_0, zc_1, zc_2, zc_3, zc_4, zc_5, zc_6, zc_7, zc_8, zc_9, zc_10, zc_12, zc_20, zc_60, zc_80, zc_108, zc_120, zc_185, zc_192, zc_1344, zc_9999, zc_FAR, zc_NEV, ite_T, ite_F, bd_s, bd2_s, rz_z, toNat_cast, mR_at, mR_ne, mu_mR, il_t, il_f, ilt_t, ilt_f, ieq_t, ieq_f, nlt_t]
    · rw [if_neg (fun hc => hb1 hc.2.1)]
      simp (disch := omega) only [f_X8_reaches_42, f_X8_reaches_186, hA, rz_1, hs, hb, hx, ↓reduceIte, ↓nm_s, ↓lk_s, ↓pc_s, z_add, z_sub, z_mul, z_neg, z_le, z_lt, z_eq, z_ix, z_vin, z_rem, zc_0, zc_1, zc_2, zc_3, zc_4, zc_5, zc_6, zc_7, zc_8, zc_9, zc_10, zc_12, zc_20, zc_60, zc_80, zc_108, zc_120, zc_185, zc_192, zc_1344, zc_9999, zc_FAR, zc_NEV, ite_T, ite_F, bd_s, bd2_s, rz_z, toNat_cast, mR_at, mR_ne, mu_mR, il_t, il_f, ilt_t, ilt_f, ieq_t, ieq_f, nlt_t]
  · rw [if_neg (fun hc => hx1 hc.1)]
    simp (disch := omega) only [f_X8_reaches_42, f_X8_reaches_186, hA, rz_1, hs, hb, hx, ↓reduceIte, ↓nm_s, ↓lk_s, ↓pc_s, z_add, z_sub, z_mul, z_neg, z_le, z_lt, z_eq, z_ix, z_vin, z_rem, zc_0, zc_1, zc_2, zc_3, zc_4, zc_5, zc_6, zc_7, zc_8, zc_9, zc_10, zc_12, zc_20, zc_60, zc_80, zc_108, zc_120, zc_185, zc_192, zc_1344, zc_9999, zc_FAR, zc_NEV, ite_T, ite_F, bd_s, bd2_s, rz_z, toNat_cast, mR_at, mR_ne, mu_mR, il_t, il_f, ilt_t, ilt_f, ieq_t, ieq_f, nlt_t]
theorem g_X8_reaches_42 {p h : Int} {M : Mem} {A : Int → Int} (hO : Ok p h A) (hA : M 21 0 = rz A) {o t : Int} (t0 : 0 ≤ t) (t1 : t ≤ 900000) (k33 : Mem → Int32 → Option Mem) :
    ∀ (n f : Nat) (i m : Int) (D : Int → Int), 0 ≤ i → i + n = A 1 → n < f → 0 ≤ m → m ≤ 1 → IvT A o t D →
    ∃ D2 m2, f_X8_reaches_42 k33 f (mR M 27 0 D) (iZ m) (iZ i) = k33 (mR M 27 0 D2) (iZ m2) ∧ IvT A o t D2 ∧ pH 1000000 t 81 D2 ≤ pH 1000000 t 81 D ∧ 0 ≤ m2 ∧ m2 ≤ 1 ∧
      (m2 = 0 → m = 0 ∧ D2 = D ∧ ∀ k, i ≤ k → k < A 1 → uA A k → D (sA A k) < 1000000 → D (dA A k) ≤ gT A k (D (sA A k))) ∧ (m = 0 → m2 = 1 → pH 1000000 t 81 D2 < pH 1000000 t 81 D) := by
  have hG := Gr_T hO
  obtain ⟨o1, o2, o3, o4, o5, o6, o7, o8, o9, o10, o11, ol, ob, op, oc⟩ := id hO
  intro n
  induction n with
  | zero =>
    intro f i m D i0 hi hf m0 m1 hI
    obtain ⟨f, rfl⟩ : ∃ g, f = g + 1 := ⟨f - 1, by omega⟩
    refine ⟨D, m, ?_, hI, Int.le_refl _, m0, m1, fun hm => ⟨hm, rfl, fun k k0 k1 => by omega⟩, fun a b => by omega⟩
    simp (disch := omega) only [f_X8_reaches_42, hA, rz_1, ↓reduceIte, ↓nm_s, ↓lk_s, ↓pc_s, z_add, z_sub, z_mul, z_neg, z_le, z_lt, z_eq, z_ix, z_vin, z_rem, zc_0, zc_1, zc_2, zc_3, zc_4, zc_5, zc_6, zc_7, zc_8, zc_9, zc_10, zc_12, zc_20, zc_60, zc_80, zc_108, zc_120, zc_185, zc_192, zc_1344, zc_9999, zc_FAR, zc_NEV, ite_T, ite_F, bd_s, bd2_s, rz_z, toNat_cast, mR_at, mR_ne, mu_mR, il_t, il_f, ilt_t, ilt_f, ieq_t, ieq_f, nlt_t]
  | succ n ih =>
    intro f i m D i0 hi hf m0 m1 hI
    obtain ⟨f, rfl⟩ : ∃ g, f = g + 1 := ⟨f - 1, by omega⟩
    have hk := ol i i0 (by omega)
    unfold lnk at hk
    have e1 := hI.2 (A (8 + 5 * i)) (by omega) (by omega)
    have e2 := hI.2 (A (8 + 5 * i + 1)) (by omega) (by omega)
    have hx0 : 0 ≤ D (A (8 + 5 * i)) := by
      by_cases hs : D (A (8 + 5 * i)) < 1000000
      · have := e1.2 hs; omega
      · omega
    have hy0 : 0 ≤ D (A (8 + 5 * i + 1)) := by
      by_cases hs : D (A (8 + 5 * i + 1)) < 1000000
      · have := e2.2 hs; omega
      · omega
    have hst := st_42 (A := A) (D := D) k33 hA f (m := m) (z := gT A i (D (A (8 + 5 * i)))) (q := if D (A (8 + 5 * i)) % 6 = A (8 + 5 * i + 3) then 1 else if A (8 + 5 * i + 4) = 0 then 0 else 1) i0 (by omega) o4 rfl rfl rfl rfl (by omega) (by omega) (by omega) (by omega) (by omega) (by omega) (by omega) (by omega) rfl rfl hx0 e1.1 hy0 e2.1 (fun hx => by
      rw [g_X8_isOpen (M := mR M 27 0 D) hO (by rw [mR_rd, if_neg (by omega)]; exact hA) i0 (by omega) hx0 (by omega)]
      unfold sOpen
      split <;> split <;> rfl) (by split <;> (try split) <;> omega) (by split <;> (try split) <;> omega) m0 m1
    by_cases hu : A (8 + 5 * i + 4) = 0
    · have hst := hst (by unfold gT; rw [if_pos hu])
      by_cases hc : D (A (8 + 5 * i)) < 1000000 ∧ A (8 + 5 * i + 4) = 0 ∧ gT A i (D (A (8 + 5 * i))) < D (A (8 + 5 * i + 1))
      · rw [if_pos hc] at hst
        have hrx := hI.relax hG (w := 81) (by omega) i0 (by omega) (k := i) hu hc.1 hc.2.2
        obtain ⟨D2, m2, h1, h2, h3, h4, h5, h6, h7⟩ := ih f (i + 1) 1 (uI D (A (8 + 5 * i + 1)) (gT A i (D (A (8 + 5 * i))))) (by omega) (by omega) (by omega) (by omega) (by omega) hrx.1
        have hlt := hrx.2
        have hda : dA A i = A (8 + 5 * i + 1) := rfl
        have hsa : sA A i = A (8 + 5 * i) := rfl
        rw [hda, hsa] at hlt
        exact ⟨D2, m2, hst.trans h1, h2, by omega, h4, h5, fun hm => by have := (h6 hm).1; omega, fun a b => by omega⟩
      · rw [if_neg hc] at hst
        obtain ⟨D2, m2, h1, h2, h3, h4, h5, h6, h7⟩ := ih f (i + 1) m D (by omega) (by omega) (by omega) (by omega) (by omega) hI
        refine ⟨D2, m2, hst.trans h1, h2, h3, h4, h5, fun hm => ?_, h7⟩
        obtain ⟨a1, a2, a3⟩ := h6 hm
        refine ⟨a1, a2, fun k k0 k1 ku ks => ?_⟩
        by_cases hki : k = i
        · subst hki
          show D (A (8 + 5 * k + 1)) ≤ gT A k (D (A (8 + 5 * k)))
          by_cases hlt : gT A k (D (A (8 + 5 * k))) < D (A (8 + 5 * k + 1))
          · exact absurd ⟨ks, hu, hlt⟩ hc
          · omega
        · exact a3 k (by omega) k1 ku ks
    · have hst : f_X8_reaches_42 k33 (f + 1) (mR M 27 0 D) (iZ m) (iZ i) = f_X8_reaches_42 k33 f (mR M 27 0 D) (iZ m) (iZ (i + 1)) := by
        have := st_42 (A := A) (D := D) k33 hA f (m := m) (z := D (A (8 + 5 * i)) + 1 + A (8 + 5 * i + 2)) (q := 1) i0 (by omega) o4 rfl rfl rfl rfl (by omega) (by omega) (by omega) (by omega) (by omega) (by omega) (by omega) (by omega) rfl rfl hx0 e1.1 hy0 e2.1 (fun hx => by
          rw [g_X8_isOpen (M := mR M 27 0 D) hO (by rw [mR_rd, if_neg (by omega)]; exact hA) i0 (by omega) hx0 (by omega)]
          unfold sOpen
          rw [if_neg hu]; rfl) (by omega) (by omega) m0 m1 rfl
        rw [if_neg (fun hc => hu hc.2.1)] at this
        exact this
      obtain ⟨D2, m2, h1, h2, h3, h4, h5, h6, h7⟩ := ih f (i + 1) m D (by omega) (by omega) (by omega) (by omega) (by omega) hI
      refine ⟨D2, m2, hst.trans h1, h2, h3, h4, h5, fun hm => ?_, h7⟩
      obtain ⟨a1, a2, a3⟩ := h6 hm
      refine ⟨a1, a2, fun k k0 k1 ku ks => ?_⟩
      by_cases hki : k = i
      · subst hki; exact absurd ku hu
      · exact a3 k (by omega) k1 ku ks
