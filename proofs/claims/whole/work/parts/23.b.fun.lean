theorem tLv_lo {A : Int → Int} {k e : Int} (h1 : e < 108 + 7 * k) (h2 : e < 185) (h3 : e ≠ 2) : tLv A k e = A e := by
  unfold tLv
  rw [if_neg h3, if_neg (by omega), if_neg (by omega)]
theorem tLv_hi {A : Int → Int} {k e : Int} (h1 : 108 + 7 * k ≤ e) (h2 : e < 185) (h3 : e ≠ 2) : tLv A k e = A (e + 7) := by
  unfold tLv
  rw [if_neg h3, if_pos ⟨h1, h2⟩]
theorem tLv_2 (A : Int → Int) (k : Int) : tLv A k 2 = A 2 - 1 := if_pos rfl
theorem sF_rm {f f2 : Int → Int} {k : Int} (h1 : ∀ j, j < k → f2 j = f j) (h2 : ∀ j, k ≤ j → f2 j = f (j + 1)) : ∀ (n : Nat) (i : Int), i ≤ k → k ≤ i + n → sF f2 n i = sF f (n + 1) i - f k := by
  have hsh : ∀ (n : Nat) (i : Int), k ≤ i → sF f2 n i = sF f n (i + 1) := by
    intro n
    induction n with
    | zero => intro i _; rfl
    | succ n ih => intro i hi; unfold sF; rw [h2 i hi, ih (i + 1) (by omega)]
  intro n
  induction n with
  | zero => intro i a b; obtain rfl : i = k := (by omega); simp [sF]
  | succ n ih =>
    intro i a b
    by_cases hi : i = k
    · subst hi
      rw [hsh (n + 1) i (Int.le_refl i), show sF f (n + 1 + 1) i = f i + sF f (n + 1) (i + 1) from rfl]
      omega
    · rw [show sF f (n + 1 + 1) i = f i + sF f (n + 1) (i + 1) from rfl, show sF f2 (n + 1) i = f2 i + sF f2 n (i + 1) from rfl, h1 i (by omega), ih (i + 1) (by omega) (by omega)]
      omega
def tRm (A : Int → Int) (k e : Int) : Int → Int := uI (tLv A k) e (A e + 1)
theorem sLoad_tRm {A : Int → Int} {k e : Int} (l : Int) (he : e = 5 ∨ e = 6) (k0 : 0 ≤ k) (k1 : k < A 2) (h12 : A 2 ≤ 12) : sLoad (tRm A k e) l = sLoad A l - if A (108 + 7 * k + 5) = l then A (108 + 7 * k + 2) else 0 := by
  unfold sLoad
  have h2 : tRm A k e 2 = A 2 - 1 := by unfold tRm; rw [uI_ne _ _ (by omega), tLv_2]
  rw [h2]
  rw [sF_cg (g := fun j => if (if j < k then A (108 + 7 * j + 5) else A (108 + 7 * (j + 1) + 5)) = l then (if j < k then A (108 + 7 * j + 2) else A (108 + 7 * (j + 1) + 2)) else 0) _ _ (fun j j0 j1 => by
    unfold tRm
    simp (disch := omega) only [uI_ne]
    by_cases hj : j < k
    · rw [if_pos hj, if_pos hj, tLv_lo (by omega) (by omega) (by omega), tLv_lo (by omega) (by omega) (by omega)]
    · rw [if_neg hj, if_neg hj, tLv_hi (by omega) (by omega) (by omega), tLv_hi (by omega) (by omega) (by omega), show 108 + 7 * j + 5 + 7 = 108 + 7 * (j + 1) + 5 by omega, show 108 + 7 * j + 2 + 7 = 108 + 7 * (j + 1) + 2 by omega])]
  rw [sF_rm (f := fun j => if A (108 + 7 * j + 5) = l then A (108 + 7 * j + 2) else 0) (k := k) (fun j hj => by simp only [if_pos hj]) (fun j hj => by simp only [if_neg (show ¬ j < k by omega)]) _ _ k0 (by omega)]
  rw [show (A 2 - 1).toNat + 1 = (A 2).toNat by omega]
theorem Ok.tRm {p h : Int} {A : Int → Int} (hO : Ok p h A) {k e : Int} (he : e = 5 ∨ e = 6) (k0 : 0 ≤ k) (k1 : k < A 2) : Ok p h (tRm A k e) := by
  obtain ⟨o1, o2, o3, o4, o5, o6, o7, o8, o9, o10, o11, ol, ob, op, oc⟩ := hO
  have hld := fun l => sLoad_tRm (A := A) l he k0 k1 o6
  have hpk := op k k0 k1
  unfold pcl at hpk
  have r0 : _root_.Jvm.Pilot.CRiverParcelServiceLaw_law_r1669_03fb13.tRm A k e 0 = A 0 := by unfold _root_.Jvm.Pilot.CRiverParcelServiceLaw_law_r1669_03fb13.tRm; rw [uI_ne _ _ (by omega), tLv_lo (by omega) (by omega) (by omega)]
  have r1 : _root_.Jvm.Pilot.CRiverParcelServiceLaw_law_r1669_03fb13.tRm A k e 1 = A 1 := by unfold _root_.Jvm.Pilot.CRiverParcelServiceLaw_law_r1669_03fb13.tRm; rw [uI_ne _ _ (by omega), tLv_lo (by omega) (by omega) (by omega)]
  have r2 : _root_.Jvm.Pilot.CRiverParcelServiceLaw_law_r1669_03fb13.tRm A k e 2 = A 2 - 1 := by unfold _root_.Jvm.Pilot.CRiverParcelServiceLaw_law_r1669_03fb13.tRm; rw [uI_ne _ _ (by omega), tLv_2]
  have r3 : _root_.Jvm.Pilot.CRiverParcelServiceLaw_law_r1669_03fb13.tRm A k e 3 = A 3 := by unfold _root_.Jvm.Pilot.CRiverParcelServiceLaw_law_r1669_03fb13.tRm; rw [uI_ne _ _ (by omega), tLv_lo (by omega) (by omega) (by omega)]
  have r4 : _root_.Jvm.Pilot.CRiverParcelServiceLaw_law_r1669_03fb13.tRm A k e 4 = A 4 := by unfold _root_.Jvm.Pilot.CRiverParcelServiceLaw_law_r1669_03fb13.tRm; rw [uI_ne _ _ (by omega), tLv_lo (by omega) (by omega) (by omega)]
  have r56 : _root_.Jvm.Pilot.CRiverParcelServiceLaw_law_r1669_03fb13.tRm A k e 5 + _root_.Jvm.Pilot.CRiverParcelServiceLaw_law_r1669_03fb13.tRm A k e 6 = A 5 + A 6 + 1 := by
    unfold _root_.Jvm.Pilot.CRiverParcelServiceLaw_law_r1669_03fb13.tRm
    rcases he with rfl | rfl
    · rw [uI_eq, uI_ne _ _ (by omega), tLv_lo (by omega) (by omega) (by omega)]; omega
    · rw [uI_eq, uI_ne _ _ (by omega), tLv_lo (by omega) (by omega) (by omega)]; omega
  have rlo : ∀ j, 8 ≤ j → j < 108 → _root_.Jvm.Pilot.CRiverParcelServiceLaw_law_r1669_03fb13.tRm A k e j = A j := fun j j0 j1 => by
    unfold _root_.Jvm.Pilot.CRiverParcelServiceLaw_law_r1669_03fb13.tRm; rw [uI_ne _ _ (by omega), tLv_lo (by omega) (by omega) (by omega)]
  have rp : ∀ j c, 0 ≤ j → j < A 2 - 1 → 0 ≤ c → c ≤ 6 → _root_.Jvm.Pilot.CRiverParcelServiceLaw_law_r1669_03fb13.tRm A k e (108 + 7 * j + c) = A (108 + 7 * (if j < k then j else j + 1) + c) := fun j c j0 j1 c0 c1 => by
    unfold _root_.Jvm.Pilot.CRiverParcelServiceLaw_law_r1669_03fb13.tRm
    rw [uI_ne _ _ (by omega)]
    by_cases hj : j < k
    · rw [if_pos hj, tLv_lo (by omega) (by omega) (by omega)]
    · rw [if_neg hj, tLv_hi (by omega) (by omega) (by omega), show 108 + 7 * j + c + 7 = 108 + 7 * (j + 1) + c by omega]
  refine ⟨by omega, by omega, by omega, by omega, by omega, by omega, by omega, by omega, by omega, by omega, by omega, fun j j0 j1 => ?_, fun j j0 j1 => ?_, fun j j0 j1 => ?_, fun j j0 j1 => ?_⟩
  · have := ol j j0 (by omega)
    unfold lnk at *
    rw [r0, rlo (8 + 5 * j) (by omega) (by omega), rlo (8 + 5 * j + 1) (by omega) (by omega), rlo (8 + 5 * j + 2) (by omega) (by omega), rlo (8 + 5 * j + 3) (by omega) (by omega), rlo (8 + 5 * j + 4) (by omega) (by omega)]
    exact this
  · rw [rlo (8 + 5 * j + 4) (by omega) (by omega)]; exact ob j (by omega) j1
  · have hj := op (if j < k then j else j + 1) (by split <;> omega) (by split <;> omega)
    have q0 := rp j 0 j0 (by omega) (by omega) (by omega)
    rw [Int.add_zero, Int.add_zero] at q0
    unfold pcl at *
    rw [r0, r1, r3, q0, rp j 1 j0 (by omega) (by omega) (by omega), rp j 2 j0 (by omega) (by omega) (by omega), rp j 3 j0 (by omega) (by omega) (by omega), rp j 4 j0 (by omega) (by omega) (by omega), rp j 5 j0 (by omega) (by omega) (by omega), rp j 6 j0 (by omega) (by omega) (by omega)]
    exact hj
  · rw [hld]
    have := oc j j0 (by omega)
    split <;> omega
theorem Ok.tAr {p h : Int} {A : Int → Int} (hO : Ok p h A) {k : Int} (k0 : 0 ≤ k) (k1 : k < A 2) (hk : A (108 + 7 * k + 4) = -1) (hd : A (8 + 5 * A (108 + 7 * k + 5) + 1) ≠ A (108 + 7 * k + 1)) : Ok p h (tAr A k) := by
  obtain ⟨o1, o2, o3, o4, o5, o6, o7, o8, o9, o10, o11, ol, ob, op, oc⟩ := hO
  unfold _root_.Jvm.Pilot.CRiverParcelServiceLaw_law_r1669_03fb13.tAr
  have hpk := op k k0 k1
  unfold pcl at hpk
  have hlk := ol (A (108 + 7 * k + 5)) (by omega) (by omega)
  unfold lnk at hlk
  refine ⟨?_, ?_, ?_, ?_, ?_, ?_, ?_, ?_, ?_, ?_, ?_, fun j k0 k1 => ?_, fun j k0 k1 => ?_, fun j k0 k1 => ?_, fun j k0 k1 => ?_⟩ <;> (try simp (disch := omega) only [uI_eq, uI_ne] at k1) <;> (try simp (disch := omega) only [uI_eq, uI_ne] at k0) <;> (try simp (disch := omega) only [uI_eq, uI_ne]) <;> try omega
  · have := ol j k0 k1
    unfold lnk at *
    simp (disch := omega) only [uI_eq, uI_ne]
    omega
  · exact ob j k0 k1
  · have := op j k0 k1
    unfold pcl at *
    by_cases hk : j = k
    · subst hk
      simp (disch := omega) only [uI_eq, uI_ne, true_and, and_true]
      omega
    · simp (disch := omega) only [uI_eq, uI_ne]
      omega
  · have h1 := oc j k0 k1
    unfold sLoad at h1 ⊢
    simp (disch := omega) only [uI_eq, uI_ne]
    rw [sF_up (f := fun i => if A (108 + 7 * i + 5) = j then A (108 + 7 * i + 2) else 0) (e := k) (fun i hi => by
      have e1 : i ≠ k := hi
      simp (disch := omega) only [uI_ne]) _ _ (by omega) (by omega)]
    simp (disch := omega) only [uI_eq, uI_ne]
    rw [if_neg (by omega : ¬ (-1 : Int) = j)]
    split <;> omega
