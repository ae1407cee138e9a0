/-! A change, on the class's side. -/
theorem rfC_in (A : Int → Int) (k a b c d : Int) : 0 ≤ rfC A k a b c d ∧ rfC A k a b c d ≤ 4 := by
  unfold rfC rLk rBl rPo rSe rSt rTk
  repeat' split
  all_goals omega
theorem g_throwFor (M : Mem) {r : Int} (r1 : 1 ≤ r) (r4 : r ≤ 4) : f_X7_throwFor M (iZ r) = some (.inr (r - 1).toNat, M) := by
  obtain rfl | rfl | rfl | rfl : r = 1 ∨ r = 2 ∨ r = 3 ∨ r = 4 := by omega
  all_goals
    unfold f_X7_throwFor
    simp (disch := omega) only [zc_1, zc_2, zc_3, zc_4, z_eq, ieq_t, ieq_f, ↓reduceIte]
    rfl
theorem g_throwFor0 (M : Mem) : f_X7_throwFor M (iZ 0) = some (.inl (), M) := by
  unfold f_X7_throwFor
  simp (disch := omega) only [zc_1, zc_2, zc_3, zc_4, z_eq, ieq_t, ieq_f, ↓reduceIte]
theorem bx_l {α β : Type} (v : α) (M : Mem) (k : α → Mem → Option ((β ⊕ Nat) × Mem)) : bx (some (.inl v, M)) k = k v M := of_eq_true (eq_self _)
theorem bx_r {α β : Type} (e : Nat) (M : Mem) (k : α → Mem → Option ((β ⊕ Nat) × Mem)) : bx (some (.inr e, M)) k = some (.inr e, M) := of_eq_true (eq_self _)
theorem bxh_l {α β : Type} (v : α) (M : Mem) (k : α → Mem → Option β) (h : Nat → Mem → Option β) : bxh (some (.inl v, M)) k h = k v M := of_eq_true (eq_self _)
theorem bxh_r {α β : Type} (e : Nat) (M : Mem) (k : α → Mem → Option β) (h : Nat → Mem → Option β) : bxh (some (.inr e, M)) k h = h e M := of_eq_true (eq_self _)
/-- the history with one more -/
def hB (A : Int → Int) (Bf : Int → Int → Int) (c : Int) : Int → Int → Int := fun j => if c = 8 then (if j = 7 then A else Bf (j + 1)) else if j = c then A else Bf j
def c8 (c : Int) : Int := if c = 8 then 8 else c + 1
def o8 (o c : Int) : Int := if c = 8 then (o + 1) % 8 else o
theorem Lk.hist {p h p2 h2 : Int} {A A2 S : Int → Int} {Bf : Int → Int → Int} {o c v : Int} (hK : Lk p h A S Bf o c v) (hp : p ≤ p2) (hh : h ≤ h2) (hO : Ok p2 h2 A2) : Lk p2 h2 A2 S (hB A Bf c) (o8 o c) (c8 c) v := by
  obtain ⟨h1, h2, h3, h4, h5, h6, h7, h8⟩ := hK.mono hp hh
  refine ⟨hO, ?_, ?_, ?_, ?_, fun j j0 j1 => ?_, h7, h8⟩
  · unfold o8; split <;> omega
  · unfold o8; split <;> omega
  · unfold c8; split <;> omega
  · unfold c8; split <;> omega
  · unfold c8 at j1
    unfold hB
    split at j1
    · next hc =>
      rw [if_pos hc]
      split
      · exact h1
      · exact h6 _ (by omega) (by omega)
    · next hc =>
      rw [if_neg hc]
      split
      · exact h1
      · exact h6 _ (by omega) (by omega)
theorem g_change {p h : Int} {M : Mem} {A S : Int → Int} {Bf : Int → Int → Int} {o c v : Int} (hK : Lk p h A S Bf o c v) (hm : Rm p (h + 120)) (hL : Lc M A S Bf o c v) {k a b w q : Int} (k0 : 0 ≤ k) (k1 : k ≤ 10) (ha : i32 a) (hb : i32 b) (hw : i32 w) (hq : i32 q) (hf : rfC A k a b w q = 0) :
    ∃ M2, f_X7_change M (iZ k) (iZ a) (iZ b) (iZ w) (iZ q) = some (.inl (iZ (dO A k a b w q).2), M2) ∧ Lc M2 (dO A k a b w q).1 S (hB A Bf c) (o8 o c) (c8 c) v ∧ ∀ d i, ¬ (d = 1 ∨ d = 2 ∨ d = 4 ∨ d = 5 ∨ d = 6 ∨ d = 8 ∨ d = 9 ∨ d = 10 ∨ d = 11) → M2 d i = M d i := by
  obtain ⟨hO, o0, o1, c0, c1, hH, hv, hS⟩ := hK
  obtain ⟨l1, l2, l3, l4, l5, l6, l7⟩ := hL
  have hm0 : Rm p h := by unfold Rm at *; omega
  have r1 := g_refusalOf hO hm0 (Nat.zero_le _) (l2 0 (by omega)) l1 k0 k1 ha hb hw hq
  rw [hf] at r1
  obtain ⟨M1, q1, q2, q3, q4, q5, q6⟩ := g_keep hO l3 l4 o0 o1 c0 c1 l2 l1
  have hn : 3 + ((o + c) % 8).toNat ≤ 10 := by omega
  have hF1 : FS2 (3 + ((o + c) % 8).toNat) M M1 := fun a i x y => q4 a i x y
  have hR1 : ∀ s, s ≤ 10 → Rw M1 s := fun s hs => by
    by_cases e : 3 + ((o + c) % 8).toNat = s
    · rw [← e]; exact q3
    · exact Rw_FS e hF1 (l2 s hs)
  obtain ⟨M2, p1, p2, p3, p4⟩ := g_carryOut hO hm (Nat.zero_le _) (hR1 0 (by omega)) (Cl_FS hO (by omega) hF1 (l2 0 (by omega)) l1) k0 k1 ha hb hf (c := w) (d := q)
  refine ⟨M2, ?_, ⟨p2, fun s hs => ?_, ?_, ?_, fun j j0 j1 => ?_, ?_, fun hv1 => ?_⟩, fun d i hd => ?_⟩
  · unfold f_X7_change
    rw [bdq r1, g_throwFor0, bx_l, bdq q1, p1, bd2_s]
  · by_cases e : 0 = s
    · rw [← e]; exact p3
    · exact Rw_FS e p4.two (hR1 s hs)
  · rw [p4 11 0 (by unfold own; omega)]; exact q5
  · rw [p4 11 0 (by unfold own; omega)]; exact q6
  · have key : ∀ t, st8 o t ≠ 3 + ((o + c) % 8).toNat → 0 ≤ t → t < c → Cl M2 (st8 o t) (Bf t) := fun t ht t0 t1 => by
      have e1 : st8 o t ≤ 10 := by unfold st8; omega
      exact Cl_FS (hH t t0 t1) (by unfold st8; omega) p4.two (hR1 _ e1) (Cl_FS (hH t t0 t1) (Ne.symm ht) hF1 (l2 _ e1) (l5 t t0 t1))
    have new : Cl M2 (3 + ((o + c) % 8).toNat) A := Cl_FS hO (by omega) p4.two (hR1 _ hn) q2
    unfold c8 at j1
    unfold hB o8
    by_cases hc : c = 8
    · rw [if_pos hc] at j1
      rw [if_pos hc, if_pos hc]
      by_cases hj : j = 7
      · rw [if_pos hj, show st8 ((o + 1) % 8) j = 3 + ((o + c) % 8).toNat by unfold st8; omega]
        exact new
      · rw [if_neg hj, show st8 ((o + 1) % 8) j = st8 o (j + 1) by unfold st8; omega]
        exact key (j + 1) (by unfold st8; omega) (by omega) (by omega)
    · rw [if_neg hc] at j1
      rw [if_neg hc, if_neg hc]
      by_cases hj : j = c
      · rw [if_pos hj, show st8 o j = 3 + ((o + c) % 8).toNat by unfold st8; rw [hj]]
        exact new
      · rw [if_neg hj]
        exact key j (by unfold st8; omega) (by omega) (by omega)
  · rw [p4 0 0 (by unfold own; omega), q4 0 0 (by unfold own; omega) (by omega)]; exact l6
  · exact Cl_FS (hS hv1) (by omega) p4.two (hR1 2 (by omega)) (Cl_FS (hS hv1) (by omega) hF1 (l2 2 (by omega)) (l7 hv1))
  · rw [p4 d i (by unfold own; omega), q4 d i (by unfold own; omega) (by omega)]
theorem g_refused {p h : Int} {M : Mem} {A : Int → Int} (hO : Ok p h A) (hm : Rm p h) (hR : Rw M 0) (hC : Cl M 0 A) {k a b w q : Int} (k0 : 0 ≤ k) (k1 : k ≤ 10) (ha : i32 a) (hb : i32 b) (hw : i32 w) (hq : i32 q) (hf : rfC A k a b w q ≠ 0) :
    f_X7_change M (iZ k) (iZ a) (iZ b) (iZ w) (iZ q) = some (.inr (rfC A k a b w q - 1).toNat, M) := by
  have r1 := g_refusalOf hO hm (Nat.zero_le _) hR hC k0 k1 ha hb hw hq
  have r2 := rfC_in A k a b w q
  unfold f_X7_change
  rw [bdq r1, g_throwFor M (by omega) (by omega), bx_r]
