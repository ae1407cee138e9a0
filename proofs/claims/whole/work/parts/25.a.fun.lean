/-! What the class's calls do to a service. -/
def own (s a i : Nat) : Prop := (a = 1 ∧ i = s) ∨ (a = 2 ∧ i = s) ∨ (a = 4 ∧ 20 * s ≤ i ∧ i < 20 * s + 20) ∨ (a = 5 ∧ i = s) ∨ (a = 6 ∧ 12 * s ≤ i ∧ i < 12 * s + 12) ∨ a = 8 ∨ a = 9 ∨ a = 10
def FS (s : Nat) (M M2 : Mem) : Prop := ∀ a i, ¬ own s a i → M2 a i = M a i
theorem FS.refl (s : Nat) (M : Mem) : FS s M M := fun _ _ _ => rfl
theorem FS.tr {s : Nat} {M M2 M3 : Mem} (h : FS s M M2) (h2 : FS s M2 M3) : FS s M M3 := fun a i hn => (h2 a i hn).trans (h a i hn)
theorem FS.mu {s : Nat} (M : Mem) {a i : Nat} (k : Nat) (v : Int32) (h : own s a i) : FS s M (mu M a i k v) := fun b j hn => mu_ne _ _ _ (fun hc => hn (by obtain ⟨rfl, rfl⟩ := hc; exact h))
theorem FS.mW (s : Nat) (M : Mem) (D S : Int → Int) : FS s M (mW M D S) := fun a i hn => mW_ne _ _ _ (by unfold own at hn; omega)
theorem FS.mR10 (s : Nat) (M : Mem) (D : Int → Int) : FS s M (mR M 10 0 D) := fun a i hn => mR_ne _ _ (by unfold own at hn; omega)
theorem mu_hit (M : Mem) (a i k : Nat) (v : Int32) : mu M a i k v a i k = v := by rw [mu_at, if_pos ⟨rfl, rfl, rfl⟩]
theorem mu_miss (M : Mem) {a i k : Nat} (v : Int32) {b j l : Nat} (h : ¬ (b = a ∧ j = i ∧ l = k)) : mu M a i k v b j l = M b j l := by rw [mu_at, if_neg h]
/-- the class's service holds A2 after a change -/
abbrev Did (s : Nat) (M M2 : Mem) (A2 : Int → Int) : Prop := Cl M2 s A2 ∧ Rw M2 s ∧ FS s M M2
theorem Rw_mu {M : Mem} {s : Nat} {a i k : Nat} {v : Int32} (h : a ≠ 5) (hR : Rw M s) : Rw (mu M a i k v) s := Rw_rows (mu_ne _ _ _ (by omega)) hR
theorem g_putPlace {p h : Int} {M : Mem} {s : Nat} {A : Int → Int} (hO : Ok p h A) (hR : Rw M s) (hC : Cl M s A) : ∃ M2, f_X2_putPlace M s = some (iZ (A 0), M2) ∧ Did s M M2 (tPl A) := by
  obtain ⟨c0, c1, c2, c3, c4, c5, c6, c7, cl, cp⟩ := hC
  refine ⟨mu M 2 s 1 (iZ (A 0 + 1)), ?_, ⟨?_, ?_, ?_, ?_, ?_, ?_, ?_, ?_, fun k k0 k1 => ?_, fun k k0 k1 => ?_⟩, Rw_mu (by omega) hR, FS.mu M _ _ (by unfold own; omega)⟩
  · simp only [f_X2_putPlace, c0, mu_hit, ↓reduceIte, ↓nm_s, ↓lk_s, ↓pc_s, z_add, z_sub, z_mul, z_neg, z_le, z_lt, z_eq, z_ix, z_vin, z_rem, zc_0, zc_1, zc_2, zc_3, zc_4, zc_5, zc_6, zc_7, zc_8, zc_9, zc_10, zc_12, zc_20, zc_60, zc_80, zc_108, zc_120, zc_185, zc_192, zc_1344, zc_9999, zc_FAR, zc_NEV, ite_T, ite_F, bd_s, bd2_s, rz_z, toNat_cast, mR_at, mR_ne, mu_mR, il_t, il_f, ilt_t, ilt_f, ieq_t, ieq_f, nlt_t]
    rw [show A 0 + 1 - 1 = A 0 by omega]
  · unfold tPl; simp only [mu_hit, uI_eq]
  · unfold tPl; simp (disch := omega) only [mu_miss, uI_ne, c1]
  · unfold tPl; simp (disch := omega) only [mu_miss, uI_ne, c2]
  · unfold tPl; simp (disch := omega) only [mu_miss, uI_ne, c3]
  · unfold tPl; simp (disch := omega) only [mu_miss, uI_ne, c4]
  · unfold tPl; simp (disch := omega) only [mu_miss, uI_ne, c5]
  · unfold tPl; simp (disch := omega) only [mu_miss, uI_ne, c6]
  · unfold tPl; simp (disch := omega) only [mu_miss, uI_ne, c7]
  · unfold tPl at k1 ⊢
    rw [uI_ne _ _ (by omega)] at k1
    simp (disch := omega) only [mu_miss, uI_ne]
    exact cl k k0 k1
  · unfold tPl at k1 ⊢
    rw [uI_ne _ _ (by omega)] at k1
    unfold sAt
    simp (disch := omega) only [mu_miss, uI_ne]
    exact cp k k0 k1
theorem g_putLink {p h : Int} {M : Mem} {s : Nat} {A : Int → Int} (hO : Ok p h A) (hR : Rw M s) (hC : Cl M s A) (h20 : A 1 < 20) (a b w q : Int) : ∃ M2, f_X2_putLink M s (iZ a) (iZ b) (iZ w) (iZ q) = some (iZ (A 1), M2) ∧ Did s M M2 (tLk A a b w q) := by
  obtain ⟨c0, c1, c2, c3, c4, c5, c6, c7, cl, cp⟩ := hC
  obtain ⟨o1, o2, o3, o4, o5, o6, o7, o8, o9, o10, o11, ol, ob, op, oc⟩ := hO
  have hb := ob (A 1) (by omega) h20
  have hix : ix (M 2 s 2) = (A 1).toNat := by rw [c1, z_ix (by omega) (by omega)]
  refine ⟨mu (mu (mu (mu (mu (mu M 4 (20 * s + (A 1).toNat) 0 (iZ a)) 4 (20 * s + (A 1).toNat) 1 (iZ b)) 4 (20 * s + (A 1).toNat) 2 (iZ w)) 4 (20 * s + (A 1).toNat) 3 (iZ q)) 4 (20 * s + (A 1).toNat) 4 (iZ 0)) 2 s 2 (iZ (A 1 + 1)), ?_, ⟨?_, ?_, ?_, ?_, ?_, ?_, ?_, ?_, fun k k0 k1 => ?_, fun k k0 k1 => ?_⟩, ?_, ?_⟩
  · clear ol ob op oc cl cp
    simp (disch := omega) only [f_X2_putLink, c1, mu_hit, mu_miss, ↓reduceIte, ↓nm_s, ↓lk_s, ↓pc_s, z_add, z_sub, z_mul, z_neg, z_le, z_lt, z_eq, z_ix, z_vin, z_rem, zc_0, zc_1, zc_2, zc_3, zc_4, zc_5, zc_6, zc_7, zc_8, zc_9, zc_10, zc_12, zc_20, zc_60, zc_80, zc_108, zc_120, zc_185, zc_192, zc_1344, zc_9999, zc_FAR, zc_NEV, ite_T, ite_F, bd_s, bd2_s, rz_z, toNat_cast, mR_at, mR_ne, mu_mR, il_t, il_f, ilt_t, ilt_f, ieq_t, ieq_f, nlt_t]
    rw [show A 1 + 1 - 1 = A 1 by omega]
  · unfold tLk; simp (disch := omega) only [mu_miss, uI_ne, c0]
  · unfold tLk; simp only [mu_hit, uI_eq]
  · unfold tLk; simp (disch := omega) only [mu_miss, uI_ne, c2]
  · unfold tLk; simp (disch := omega) only [mu_miss, uI_ne, c3]
  · unfold tLk; simp (disch := omega) only [mu_miss, uI_ne, c4]
  · unfold tLk; simp (disch := omega) only [mu_miss, uI_ne, c5]
  · unfold tLk; simp (disch := omega) only [mu_miss, uI_ne, c6]
  · unfold tLk; simp (disch := omega) only [mu_miss, uI_ne, c7]
  · unfold tLk at k1 ⊢
    rw [uI_eq] at k1
    by_cases hk : k = A 1
    · subst hk
      simp (disch := omega) only [mu_hit, mu_miss, uI_ne, uI_eq, hb, and_self]
    · simp (disch := omega) only [mu_miss, uI_ne]
      exact cl k k0 (by omega)
  · unfold tLk at k1 ⊢
    rw [uI_ne _ _ (by omega), uI_ne _ _ (by omega), uI_ne _ _ (by omega), uI_ne _ _ (by omega), uI_ne _ _ (by omega)] at k1
    have hp := op k k0 k1
    unfold pcl at hp
    have hq := cp k k0 k1
    unfold sAt at hq ⊢
    clear ol ob op oc cl cp
    by_cases h4 : A (108 + 7 * k + 4) = -1
    · rw [if_pos h4] at hq
      simp (disch := omega) only [mu_miss, uI_ne, if_pos]
      exact hq
    · rw [if_neg h4] at hq
      simp (disch := omega) only [mu_miss, uI_ne, if_neg]
      exact hq
  · exact Rw_mu (by omega) (Rw_mu (by omega) (Rw_mu (by omega) (Rw_mu (by omega) (Rw_mu (by omega) (Rw_mu (by omega) hR)))))
  · have ho : own s 4 (20 * s + (A 1).toNat) := by unfold own; omega
    exact (((((FS.mu M _ _ ho).tr (FS.mu _ _ _ ho)).tr (FS.mu _ _ _ ho)).tr (FS.mu _ _ _ ho)).tr (FS.mu _ _ _ ho)).tr (FS.mu _ _ _ (by unfold own; omega))
theorem g_blockedLinks' {p h : Int} {M : Mem} {s : Nat} {A : Int → Int} (hO : Ok p h A) (hm : Rm p h) (hs : s ≤ 10) (hR : Rw M s) (hC : Cl M s A) : f_X2_blockedLinks M s = some (iZ (sBlk A)) := g_blockedLinks hO hm hs hR hC
theorem g_setBlocked {p h : Int} {M : Mem} {s : Nat} {A : Int → Int} (hO : Ok p h A) (hm : Rm p h) (hs : s ≤ 10) (hR : Rw M s) (hC : Cl M s A) {l v : Int} (l0 : 0 ≤ l) (l1 : l < A 1) (v0 : 0 ≤ v) (v1 : v ≤ 1) : ∃ M2, f_X2_setBlocked M s (iZ l) (iZ v) = some (iZ (sBlk (tBl A l v)), M2) ∧ Did s M M2 (tBl A l v) := by
  have o4 := hO.2.2.2.1
  have hhl := g_hasLink hO hC (a := l) (by unfold i32; omega)
  have hb1 : bI (0 ≤ l ∧ l < A 1) = 1 := if_pos ⟨l0, l1⟩
  rw [hb1] at hhl
  have hOk := hO.tBl l0 l1 v0 v1
  have hO2 := hO
  obtain ⟨o1, o2, o3, -, o5, o6, o7, o8, o9, o10, o11, ol, ob, op, oc⟩ := hO2
  have hC2 : Cl (mu M 4 (20 * s + l.toNat) 4 (iZ v)) s (tBl A l v) := by
    obtain ⟨c0, c1, c2, c3, c4, c5, c6, c7, cl, cp⟩ := hC
    refine ⟨?_, ?_, ?_, ?_, ?_, ?_, ?_, ?_, fun k k0 k1 => ?_, fun k k0 k1 => ?_⟩
    · unfold tBl; simp (disch := omega) only [mu_miss, uI_ne, c0]
    · unfold tBl; simp (disch := omega) only [mu_miss, uI_ne, c1]
    · unfold tBl; simp (disch := omega) only [mu_miss, uI_ne, c2]
    · unfold tBl; simp (disch := omega) only [mu_miss, uI_ne, c3]
    · unfold tBl; simp (disch := omega) only [mu_miss, uI_ne, c4]
    · unfold tBl; simp (disch := omega) only [mu_miss, uI_ne, c5]
    · unfold tBl; simp (disch := omega) only [mu_miss, uI_ne, c6]
    · unfold tBl; simp (disch := omega) only [mu_miss, uI_ne, c7]
    · unfold tBl at k1 ⊢
      rw [uI_ne _ _ (by omega)] at k1
      have hk := cl k k0 k1
      by_cases hkl : k = l
      · subst hkl
        simp (disch := omega) only [mu_hit, mu_miss, uI_ne, uI_eq]
        exact ⟨hk.1, hk.2.1, hk.2.2.1, hk.2.2.2.1, trivial⟩
      · simp (disch := omega) only [mu_miss, uI_ne]
        exact hk
    · unfold tBl at k1 ⊢
      rw [uI_ne _ _ (by omega)] at k1
      have hp := op k k0 k1
      unfold pcl at hp
      have hq := cp k k0 k1
      unfold sAt at hq ⊢
      clear ol ob op oc cl cp
      by_cases h4 : A (108 + 7 * k + 4) = -1
      · rw [if_pos h4] at hq
        simp (disch := omega) only [mu_miss, uI_ne, if_pos]
        exact hq
      · rw [if_neg h4] at hq
        simp (disch := omega) only [mu_miss, uI_ne, if_neg]
        exact hq
  have hR2 : Rw (mu M 4 (20 * s + l.toNat) 4 (iZ v)) s := Rw_mu (by omega) hR
  refine ⟨_, ?_, hC2, hR2, FS.mu _ _ _ (by unfold own; omega)⟩
  have hbl := g_blockedLinks hOk hm hs hR2 hC2
  have hib : isB (iZ v) = True := eq_true (by
    obtain rfl | rfl : v = 0 ∨ v = 1 := by omega
    · exact .inl rfl
    · exact .inr rfl)
  clear ol ob op oc hC hO hOk hC2
  simp (disch := omega) only [f_X2_setBlocked, f_X2_setBlocked_18, ↓bdq hhl, hib, hbl, ↓reduceIte, ↓nm_s, ↓lk_s, ↓pc_s, z_add, z_sub, z_mul, z_neg, z_le, z_lt, z_eq, z_ix, z_vin, z_rem, zc_0, zc_1, zc_2, zc_3, zc_4, zc_5, zc_6, zc_7, zc_8, zc_9, zc_10, zc_12, zc_20, zc_60, zc_80, zc_108, zc_120, zc_185, zc_192, zc_1344, zc_9999, zc_FAR, zc_NEV, ite_T, ite_F, bd_s, bd2_s, rz_z, toNat_cast, mR_at, mR_ne, mu_mR, il_t, il_f, ilt_t, ilt_f, ieq_t, ieq_f, nlt_t]
