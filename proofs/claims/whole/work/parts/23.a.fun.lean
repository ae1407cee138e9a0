theorem sLoad_cg {A B : Int → Int} (l : Int) (h2 : B 2 = A 2) (hk : ∀ k, 0 ≤ k → k < A 2 → B (108 + 7 * k + 5) = A (108 + 7 * k + 5) ∧ B (108 + 7 * k + 2) = A (108 + 7 * k + 2)) : sLoad B l = sLoad A l := by
  unfold sLoad
  rw [h2]
  exact sF_cg _ _ (fun k k0 k1 => by
    obtain ⟨a, b⟩ := hk k k0 (by omega)
    show (if B (108 + 7 * k + 5) = l then B (108 + 7 * k + 2) else 0) = _
    rw [a, b])
def tPl (A : Int → Int) : Int → Int := uI A 0 (A 0 + 1)
def tLk (A : Int → Int) (a b w q : Int) : Int → Int := uI (uI (uI (uI (uI A (8 + 5 * A 1) a) (8 + 5 * A 1 + 1) b) (8 + 5 * A 1 + 2) w) (8 + 5 * A 1 + 3) q) 1 (A 1 + 1)
def tBl (A : Int → Int) (l v : Int) : Int → Int := uI A (8 + 5 * l + 4) v
def tPo (A : Int → Int) (a b w q : Int) : Int → Int := uI (uI (uI (uI (uI (uI (uI (uI (uI A (108 + 7 * A 2) (A 3)) (108 + 7 * A 2 + 1) b) (108 + 7 * A 2 + 2) w) (108 + 7 * A 2 + 3) q) (108 + 7 * A 2 + 4) a) (108 + 7 * A 2 + 5) (-1)) (108 + 7 * A 2 + 6) 0) 2 (A 2 + 1)) 3 (A 3 + 1)
def tSe (A : Int → Int) (k l : Int) : Int → Int := uI (uI (uI (uI (uI A (108 + 7 * k + 3) (A (108 + 7 * k + 3) - 1)) 7 (A 7 + 1)) (108 + 7 * k + 4) (-1)) (108 + 7 * k + 5) l) (108 + 7 * k + 6) (A 4 + A (8 + 5 * l + 2))
def tSt (A : Int → Int) (k q : Int) : Int → Int := uI A (108 + 7 * k + 3) (A (108 + 7 * k + 3) + q)
def tLv (A : Int → Int) (k : Int) : Int → Int := fun j => if j = 2 then A 2 - 1 else if 108 + 7 * k ≤ j ∧ j < 185 then A (j + 7) else if 185 ≤ j ∧ j < 192 then 0 else A j
def tTk (A : Int → Int) (k : Int) : Int → Int := uI (tLv A k) 6 (A 6 + 1)
def tDl (A : Int → Int) (k : Int) : Int → Int := uI (tLv A k) 5 (A 5 + 1)
def tAr (A : Int → Int) (k : Int) : Int → Int := uI (uI (uI A (108 + 7 * k + 4) (A (8 + 5 * A (108 + 7 * k + 5) + 1))) (108 + 7 * k + 5) (-1)) (108 + 7 * k + 6) 0
def tHo (A : Int → Int) : Int → Int := uI A 4 (A 4 + 1)
theorem Ok.mono {p h p2 h2 : Int} {A : Int → Int} (hO : Ok p h A) (hp : p ≤ p2) (hh : h ≤ h2) : Ok p2 h2 A := by
  obtain ⟨o1, o2, o3, o4, o5, o6, o7, o8, o9, o10, o11, ol, ob, op, oc⟩ := hO
  refine ⟨o1, o2, o3, o4, o5, o6, o7, by omega, o9, by omega, o11, ol, ob, fun k k0 k1 => ?_, oc⟩
  have := op k k0 k1
  unfold pcl at *
  omega
theorem Ok.tPl {p h : Int} {A : Int → Int} (hO : Ok p h A) (h9 : A 0 < 9) : Ok p h (tPl A) := by
  obtain ⟨o1, o2, o3, o4, o5, o6, o7, o8, o9, o10, o11, ol, ob, op, oc⟩ := hO
  unfold _root_.Jvm.Pilot.CRiverParcelServiceLaw_law_r1669_03fb13.tPl
  refine ⟨?_, ?_, ?_, ?_, ?_, ?_, ?_, ?_, ?_, ?_, ?_, fun k k0 k1 => ?_, fun k k0 k1 => ?_, fun k k0 k1 => ?_, fun k k0 k1 => ?_⟩ <;> (try simp (disch := omega) only [uI_eq, uI_ne] at k1) <;> (try simp (disch := omega) only [uI_eq, uI_ne]) <;> try omega
  · have := ol k k0 k1
    unfold lnk at *
    simp (disch := omega) only [uI_eq, uI_ne]
    omega
  · exact ob k k0 k1
  · have := op k k0 k1
    unfold pcl at *
    simp (disch := omega) only [uI_eq, uI_ne]
    omega
  · rw [sLoad_cg (A := A) k (uI_ne _ _ (by omega)) (fun j j0 j1 => ⟨uI_ne _ _ (by omega), uI_ne _ _ (by omega)⟩)]
    exact oc k k0 k1
theorem Ok.tHo {p h : Int} {A : Int → Int} (hO : Ok p h A) : Ok p (h + 1) (tHo A) := by
  obtain ⟨o1, o2, o3, o4, o5, o6, o7, o8, o9, o10, o11, ol, ob, op, oc⟩ := hO
  unfold _root_.Jvm.Pilot.CRiverParcelServiceLaw_law_r1669_03fb13.tHo
  refine ⟨?_, ?_, ?_, ?_, ?_, ?_, ?_, ?_, ?_, ?_, ?_, fun k k0 k1 => ?_, fun k k0 k1 => ?_, fun k k0 k1 => ?_, fun k k0 k1 => ?_⟩ <;> (try simp (disch := omega) only [uI_eq, uI_ne] at k1) <;> (try simp (disch := omega) only [uI_eq, uI_ne]) <;> try omega
  · have := ol k k0 k1
    unfold lnk at *
    simp (disch := omega) only [uI_eq, uI_ne]
    omega
  · exact ob k k0 k1
  · have := op k k0 k1
    unfold pcl at *
    simp (disch := omega) only [uI_eq, uI_ne]
    omega
  · rw [sLoad_cg (A := A) k (uI_ne _ _ (by omega)) (fun j j0 j1 => ⟨uI_ne _ _ (by omega), uI_ne _ _ (by omega)⟩)]
    exact oc k k0 k1
theorem Ok.tBl {p h : Int} {A : Int → Int} (hO : Ok p h A) {l v : Int} (l0 : 0 ≤ l) (l1 : l < A 1) (v0 : 0 ≤ v) (v1 : v ≤ 1) : Ok p h (tBl A l v) := by
  obtain ⟨o1, o2, o3, o4, o5, o6, o7, o8, o9, o10, o11, ol, ob, op, oc⟩ := hO
  unfold _root_.Jvm.Pilot.CRiverParcelServiceLaw_law_r1669_03fb13.tBl
  refine ⟨?_, ?_, ?_, ?_, ?_, ?_, ?_, ?_, ?_, ?_, ?_, fun k k0 k1 => ?_, fun k k0 k1 => ?_, fun k k0 k1 => ?_, fun k k0 k1 => ?_⟩ <;> (try simp (disch := omega) only [uI_eq, uI_ne] at k1) <;> (try simp (disch := omega) only [uI_eq, uI_ne] at k0) <;> (try simp (disch := omega) only [uI_eq, uI_ne]) <;> try omega
  · have := ol k k0 k1
    unfold lnk at *
    by_cases hk : k = l
    · subst hk
      simp (disch := omega) only [uI_eq, uI_ne, true_and, and_true]
      omega
    · simp (disch := omega) only [uI_eq, uI_ne]
      omega
  · exact ob k k0 k1
  · have := op k k0 k1
    unfold pcl at *
    simp (disch := omega) only [uI_eq, uI_ne]
    omega
  · rw [sLoad_cg (A := A) k (uI_ne _ _ (by omega)) (fun j j0 j1 => ⟨uI_ne _ _ (by omega), uI_ne _ _ (by omega)⟩)]
    exact oc k k0 k1
theorem Ok.tLk {p h : Int} {A : Int → Int} (hO : Ok p h A) {a b w q : Int} (h20 : A 1 < 20) (a0 : 0 ≤ a) (a1 : a < A 0) (b0 : 0 ≤ b) (b1 : b < A 0) (w0 : 1 ≤ w) (w1 : w ≤ 9) (q0 : 0 ≤ q) (q1 : q ≤ 5) : Ok p h (tLk A a b w q) := by
  obtain ⟨o1, o2, o3, o4, o5, o6, o7, o8, o9, o10, o11, ol, ob, op, oc⟩ := hO
  unfold _root_.Jvm.Pilot.CRiverParcelServiceLaw_law_r1669_03fb13.tLk
  have hld : ∀ k, sLoad (uI (uI (uI (uI (uI A (8 + 5 * A 1) a) (8 + 5 * A 1 + 1) b) (8 + 5 * A 1 + 2) w) (8 + 5 * A 1 + 3) q) 1 (A 1 + 1)) k = sLoad A k := fun k => sLoad_cg (A := A) k (by simp (disch := omega) only [uI_ne]) (fun j j0 j1 => ⟨by simp (disch := omega) only [uI_ne], by simp (disch := omega) only [uI_ne]⟩)
  refine ⟨?_, ?_, ?_, ?_, ?_, ?_, ?_, ?_, ?_, ?_, ?_, fun k k0 k1 => ?_, fun k k0 k1 => ?_, fun k k0 k1 => ?_, fun k k0 k1 => ?_⟩ <;> (try simp (disch := omega) only [uI_eq, uI_ne] at k1) <;> (try simp (disch := omega) only [uI_eq, uI_ne] at k0) <;> (try simp (disch := omega) only [uI_eq, uI_ne]) <;> try omega
  · unfold lnk at *
    by_cases hk : k = A 1
    · subst hk
      simp (disch := omega) only [uI_eq, uI_ne, true_and, and_true]
      have := ob (A 1) (by omega) (by omega)
      omega
    · have := ol k k0 (by omega)
      simp (disch := omega) only [uI_eq, uI_ne]
      omega
  · exact ob k (by omega) k1
  · have := op k k0 k1
    unfold pcl at *
    simp (disch := omega) only [uI_eq, uI_ne]
    omega
  · rw [hld]
    by_cases hk : k = A 1
    · have : sLoad A k = 0 := by
        unfold sLoad
        rw [sF_cg (g := fun _ => 0) _ _ (fun j j0 j1 => by
          have := op j j0 (by omega)
          unfold pcl at this
          show (if A (108 + 7 * j + 5) = k then A (108 + 7 * j + 2) else 0) = 0
          rw [if_neg (by omega)])]
        exact Int.le_antisymm (by have := sF_le (f := fun _ => (0 : Int)) (b := 0) (A 2).toNat 0 (fun _ _ _ => Int.le_refl 0); omega) (sF_nn _ _ (fun _ _ _ => Int.le_refl 0))
      omega
    · exact oc k k0 (by omega)
theorem Ok.tSt {p h : Int} {A : Int → Int} (hO : Ok p h A) {k q : Int} (k0 : 0 ≤ k) (k1 : k < A 2) (q0 : 1 ≤ q) (q1 : A (108 + 7 * k + 3) + q ≤ 20) : Ok p h (tSt A k q) := by
  obtain ⟨o1, o2, o3, o4, o5, o6, o7, o8, o9, o10, o11, ol, ob, op, oc⟩ := hO
  unfold _root_.Jvm.Pilot.CRiverParcelServiceLaw_law_r1669_03fb13.tSt
  have hpk := op k k0 k1
  unfold pcl at hpk
  refine ⟨?_, ?_, ?_, ?_, ?_, ?_, ?_, ?_, ?_, ?_, ?_, fun j k0 k1 => ?_, fun j k0 k1 => ?_, fun j k0 k1 => ?_, fun j k0 k1 => ?_⟩ <;> (try simp (disch := omega) only [uI_eq, uI_ne] at k1) <;> (try simp (disch := omega) only [uI_eq, uI_ne] at k0) <;> (try simp (disch := omega) only [uI_eq, uI_ne]) <;> try omega
  · have := ol j k0 k1
    unfold lnk at *
    simp (disch := omega) only [uI_eq, uI_ne]
    omega
  · exact ob j k0 k1
  · have := op j k0 k1
    unfold pcl at *
    by_cases hk : j = k
    · subst hk
      simp (disch := omega) only [uI_eq, uI_ne, true_and, and_true]
      omega
    · simp (disch := omega) only [uI_eq, uI_ne]
      omega
  · rw [sLoad_cg (A := A) j (uI_ne _ _ (by omega)) (fun j j0 j1 => ⟨uI_ne _ _ (by omega), uI_ne _ _ (by omega)⟩)]
    exact oc j k0 k1
theorem Ok.tPo {p h : Int} {A : Int → Int} (hO : Ok p h A) {a b w q : Int} (h12 : A 2 < 12) (a0 : 0 ≤ a) (a1 : a < A 0) (b0 : 0 ≤ b) (b1 : b < A 0) (w0 : 1 ≤ w) (w1 : w ≤ 9) (q0 : 0 ≤ q) (q1 : q ≤ 20) (hab : a ≠ b) : Ok (p + 1) h (tPo A a b w q) := by
  obtain ⟨o1, o2, o3, o4, o5, o6, o7, o8, o9, o10, o11, ol, ob, op, oc⟩ := hO
  unfold _root_.Jvm.Pilot.CRiverParcelServiceLaw_law_r1669_03fb13.tPo
  refine ⟨?_, ?_, ?_, ?_, ?_, ?_, ?_, ?_, ?_, ?_, ?_, fun k k0 k1 => ?_, fun k k0 k1 => ?_, fun k k0 k1 => ?_, fun k k0 k1 => ?_⟩ <;> (try simp (disch := omega) only [uI_eq, uI_ne] at k1) <;> (try simp (disch := omega) only [uI_eq, uI_ne] at k0) <;> (try simp (disch := omega) only [uI_eq, uI_ne]) <;> try omega
  · have := ol k k0 k1
    unfold lnk at *
    simp (disch := omega) only [uI_eq, uI_ne]
    omega
  · exact ob k k0 k1
  · unfold pcl at *
    by_cases hk : k = A 2
    · subst hk
      simp (disch := omega) only [uI_eq, uI_ne, true_and, and_true]
      omega
    · have := op k k0 (by omega)
      simp (disch := omega) only [uI_eq, uI_ne]
      omega
  · have h1 := oc k k0 k1
    refine Int.le_trans (Int.le_of_eq ?_) h1
    unfold sLoad
    simp (disch := omega) only [uI_eq, uI_ne]
    obtain ⟨n, hn⟩ : ∃ n : Nat, A 2 = n := ⟨(A 2).toNat, by omega⟩
    have hsn : ∀ (f : Int → Int) (n : Nat) (i : Int), sF f (n + 1) i = sF f n i + f (i + n) := by
      intro f n
      induction n with
      | zero => intro i; simp [sF]
      | succ n ih => intro i; rw [sF, ih (i + 1), sF, show i + 1 + (n : Int) = i + ((n + 1 : Nat) : Int) by omega]; omega
    rw [show (A 2 + 1).toNat = (A 2).toNat + 1 by omega, hsn, sF_cg (g := fun j => if A (108 + 7 * j + 5) = k then A (108 + 7 * j + 2) else 0) _ _ (fun j j0 j1 => by simp (disch := omega) only [uI_ne])]
    rw [show (0 : Int) + ((A 2).toNat : Int) = A 2 by omega]
    simp (disch := omega) only [uI_eq, uI_ne]
    rw [if_neg (by omega)]
    omega
theorem Ok.tSe {p h : Int} {A : Int → Int} (hO : Ok p h A) {k l : Int} (k0 : 0 ≤ k) (k1 : k < A 2) (l0 : 0 ≤ l) (l1 : l < A 1) (hM : sMay A k l) : Ok p h (tSe A k l) := by
  obtain ⟨m1, m2, m3, m4, m5⟩ := hM
  obtain ⟨o1, o2, o3, o4, o5, o6, o7, o8, o9, o10, o11, ol, ob, op, oc⟩ := hO
  unfold _root_.Jvm.Pilot.CRiverParcelServiceLaw_law_r1669_03fb13.tSe
  have hpk := op k k0 k1
  unfold pcl at hpk
  have hlk := ol l l0 l1
  unfold lnk at hlk
  refine ⟨?_, ?_, ?_, ?_, ?_, ?_, ?_, ?_, ?_, ?_, ?_, fun j k0 k1 => ?_, fun j k0 k1 => ?_, fun j k0 k1 => ?_, fun j k0 k1 => ?_⟩ <;> (try simp (disch := omega) only [uI_eq, uI_ne] at k1) <;> (try simp (disch := omega) only [uI_eq, uI_ne] at k0) <;> (try simp (disch := omega) only [uI_eq, uI_ne]) <;> try omega
  · have := ol j k0 k1
    unfold lnk at *
    simp (disch := omega) only [uI_eq, uI_ne]
    omega
  · exact ob j k0 k1
  · have := op j k0 k1
    unfold pcl at *
    by_cases hk : j = k
    · subst hk
      simp (disch := omega) only [uI_eq, uI_ne, true_and, and_true]
      omega
    · simp (disch := omega) only [uI_eq, uI_ne]
      omega
  · have h1 := oc j k0 k1
    unfold sLoad at h1 m5 ⊢
    simp (disch := omega) only [uI_eq, uI_ne]
    rw [sF_up (f := fun i => if A (108 + 7 * i + 5) = j then A (108 + 7 * i + 2) else 0) (e := k) (fun i hi => by
      have e1 : i ≠ k := hi
      simp (disch := omega) only [uI_ne]) _ _ (by omega) (by omega)]
    simp (disch := omega) only [uI_eq, uI_ne]
    rw [if_neg (by omega : ¬ A (108 + 7 * k + 5) = j)]
    by_cases hlj : l = j
    · subst hlj; rw [if_pos rfl]; omega
    · rw [if_neg hlj]; omega
