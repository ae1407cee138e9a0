/-! the class writes numbers -/
theorem ss_n {M : Mem} {v a2 a3 : Int} {f : Nat} (v0 : 0 ≤ v) (v1 : v < 1000000) (b0 : -100000 ≤ a2) (b1 : a2 ≤ 0) (c0 : 0 ≤ a3) (c1 : a3 < 10) (h : -v ≤ a2) : f_J6_stringSize_0f7a4_16 M (f + 1) (iZ (-v)) (iZ 0) (iZ a2) (iZ a3) = f_J6_stringSize_0f7a4_16 M f (iZ (-v)) (iZ 0) (iZ (10 * a2)) (iZ (a3 + 1)) := by
  show (if (10 : Int32) ≤ iZ a3 then _ else _) = _
  rw [if_neg (show ¬ ((10 : Int32) ≤ iZ a3) by rw [zc_10, z_le (by omega) (by omega) (by omega) (by omega)]; omega), if_pos (show iZ (-v) ≤ iZ a2 by rw [z_le (by omega) (by omega) (by omega) (by omega)]; exact h), zc_10, z_mul, zc_1, z_add]
theorem ss_e {M : Mem} {v a2 a3 : Int} {f : Nat} (v0 : 0 ≤ v) (v1 : v < 1000000) (b0 : -1000000 ≤ a2) (b1 : a2 ≤ 0) (c0 : 0 ≤ a3) (c1 : a3 < 10) (h : a2 < -v) : f_J6_stringSize_0f7a4_16 M (f + 1) (iZ (-v)) (iZ 0) (iZ a2) (iZ a3) = some (iZ a3) := by
  show (if (10 : Int32) ≤ iZ a3 then _ else _) = _
  rw [if_neg (show ¬ ((10 : Int32) ≤ iZ a3) by rw [zc_10, z_le (by omega) (by omega) (by omega) (by omega)]; omega), if_neg (show ¬ (iZ (-v) ≤ iZ a2) by rw [z_le (by omega) (by omega) (by omega) (by omega)]; omega), z_add, Int.add_zero]
theorem s_size (M : Mem) {v : Int} (v0 : 0 ≤ v) (v1 : v < 1000000) : f_J6_stringSize_0f7a4 M (iZ v) = some (iZ (dg v).length) := by
  have h0 : f_J6_stringSize_0f7a4 M (iZ v) = f_J6_stringSize_0f7a4_16 M (4994 + 1 + 1 + 1 + 1 + 1 + 1) (iZ (-v)) (iZ 0) (iZ (-10)) (iZ 1) := by
    unfold f_J6_stringSize_0f7a4 f_J6_stringSize_0f7a4_11
    rw [if_neg (show ¬ (iZ v < 0) by rw [zc_0, z_lt (by omega) (by omega) (by omega) (by omega)]; omega), z_neg]
    rfl
  rw [h0]
  by_cases h1 : v < 10
  · rw [ss_e v0 v1 (by omega) (by omega) (by omega) (by omega) (by omega), dg_1 h1]; rfl
  · rw [ss_n v0 v1 (by omega) (by omega) (by omega) (by omega) (by omega), show (10 : Int) * -10 = -100 by decide, show (1 : Int) + 1 = 2 by decide]
    by_cases h2 : v < 100
    · rw [ss_e v0 v1 (by omega) (by omega) (by omega) (by omega) (by omega), dg_2 (by omega) h2]; rfl
    · rw [ss_n v0 v1 (by omega) (by omega) (by omega) (by omega) (by omega), show (10 : Int) * -100 = -1000 by decide, show (2 : Int) + 1 = 3 by decide]
      by_cases h3 : v < 1000
      · rw [ss_e v0 v1 (by omega) (by omega) (by omega) (by omega) (by omega), dg_3 (by omega) h3]; rfl
      · rw [ss_n v0 v1 (by omega) (by omega) (by omega) (by omega) (by omega), show (10 : Int) * -1000 = -10000 by decide, show (3 : Int) + 1 = 4 by decide]
        by_cases h4 : v < 10000
        · rw [ss_e v0 v1 (by omega) (by omega) (by omega) (by omega) (by omega), dg_4 (by omega) h4]; rfl
        · rw [ss_n v0 v1 (by omega) (by omega) (by omega) (by omega) (by omega), show (10 : Int) * -10000 = -100000 by decide, show (4 : Int) + 1 = 5 by decide]
          by_cases h5 : v < 100000
          · rw [ss_e v0 v1 (by omega) (by omega) (by omega) (by omega) (by omega), dg_5 (by omega) h5]; rfl
          · rw [ss_n v0 v1 (by omega) (by omega) (by omega) (by omega) (by omega), show (10 : Int) * -100000 = -1000000 by decide, show (5 : Int) + 1 = 6 by decide, ss_e v0 v1 (by omega) (by omega) (by omega) (by omega) (by omega), dg_6 (by omega)]; rfl
theorem z_divn {w b : Int} (h : 0 ≤ w) (h2 : w ≤ 2147483647) (h3 : 0 < b) (h4 : b ≤ 2147483647) : iZ (-w) / iZ b = iZ (-(w / b)) := by
  unfold iZ
  rw [← Int32.ofInt_tdiv (by show (-2147483648 : Int) ≤ _; omega) (by show _ ≤ (2147483647 : Int); omega) (by show (-2147483648 : Int) ≤ _; omega) (by show _ ≤ (2147483647 : Int); omega), Int.neg_tdiv, Int.tdiv_eq_ediv_of_nonneg h]
/-- ds is written at l -/
def Wr (M M2 : Mem) (l : Nat) (ds : List Int) : Prop := (∀ i, i < ds.length → M2 34 0 (l + i) = iZ (ds.getD i 0)) ∧ (∀ j, j < l ∨ l + ds.length ≤ j → M2 34 0 j = M 34 0 j) ∧ ∀ a i k, a ≠ 34 → M2 a i k = M a i k
theorem Wr.app {M M1 M2 : Mem} {l : Nat} {a b : List Int} (h1 : Wr M M1 (l + a.length) b) (h2 : Wr M1 M2 l a) : Wr M M2 l (a ++ b) := by
  refine ⟨fun i hi => ?_, fun j hj => ?_, fun c i k hc => (h2.2.2 c i k hc).trans (h1.2.2 c i k hc)⟩
  · rw [List.length_append] at hi
    by_cases e : i < a.length
    · rw [gD_l e]; exact h2.1 i e
    · rw [gD_r (by omega), h2.2.1 (l + i) (by omega), show l + i = l + a.length + (i - a.length) by omega]
      exact h1.1 _ (by omega)
  · rw [List.length_append] at hj
    rw [h2.2.1 j (by omega), h1.2.1 j (by omega)]
theorem Wr.two (M : Mem) (l : Nat) (x y : Int) : Wr M (mu (mu M 34 0 (l + 1) (iZ y)) 34 0 l (iZ x)) l [x, y] := by
  refine ⟨fun i hi => ?_, fun j hj => ?_, fun a i k ha => ?_⟩
  · have hi2 : i < 2 := hi
    obtain rfl | rfl : i = 0 ∨ i = 1 := by omega
    · exact mu_hit _ _ _ _ _
    · rw [mu_miss _ _ (by omega), mu_hit]; rfl
  · have hj2 : j < l ∨ l + 2 ≤ j := hj
    rw [mu_miss _ _ (by omega), mu_miss _ _ (by omega)]
  · rw [mu_miss _ _ (by omega), mu_miss _ _ (by omega)]
theorem Wr.one (M : Mem) (l : Nat) (x : Int) : Wr M (mu M 34 0 l (iZ x)) l [x] := by
  refine ⟨fun i hi => ?_, fun j hj => ?_, fun a i k ha => ?_⟩
  · have hi2 : i < 1 := hi
    obtain rfl : i = 0 := by omega
    exact mu_hit _ _ _ _ _
  · have hj2 : j < l ∨ l + 1 ≤ j := hj
    rw [mu_miss _ _ (by omega)]
  · rw [mu_miss _ _ (by omega)]
/-- one, two digits; a hundred's rest -/
theorem nI_48 {k : Nat} (hk : k < 100) : nI (48 + k) = iZ (48 + (k : Int)) := by rw [nI_iZ]; rfl
theorem gc_1 {M : Mem} {w q : Int} {f l : Nat} (hq : M 34 0 100000 = iZ q) (q0 : 0 ≤ q) (q1 : q ≤ 34) (w0 : 0 ≤ w) (w1 : w < 10) (hl : (l : Int) + 1 ≤ q) : f_J6_getChars_ba4f3_22 (f + 1) M (iZ (-w)) (iZ (l + 1)) (iZ 0) = some (iZ l, mu M 34 0 l (iZ (48 + w % 10))) := by
  show (if (-100 : Int32) < iZ (-w) then _ else _) = _
  unfold f_J6_getChars_ba4f3_104
  rw [if_pos (show (-100 : Int32) < iZ (-w) by rw [show (-100 : Int32) = iZ (-100) from rfl, z_lt (by omega) (by omega) (by omega) (by omega)]; omega), z_neg, Int.neg_neg, if_pos (of_eq_true (z_vin w0 (by omega) (by omega))), hq, z_ix (by omega) (by omega), zc_m1, z_add, show (l : Int) + 1 + -1 = l by omega, if_pos (of_eq_true (z_vin (by omega) (by omega) (by omega))), if_pos (by omega), nm_s, if_pos (show (-9 : Int32) ≤ iZ (-w) by rw [show (-9 : Int32) = iZ (-9) from rfl, z_le (by omega) (by omega) (by omega) (by omega)]; omega), if_pos (by decide : iZ 0 = (0 : Int32)), z_ix (by omega) (by omega), z_ix (by omega) (by omega), Int.toNat_natCast, nI_48 (by omega)]
  rw [show (48 + ((w.toNat % 10 : Nat) : Int)) = 48 + w % 10 by omega]
theorem gc_2 {M : Mem} {w q : Int} {f l : Nat} (hq : M 34 0 100000 = iZ q) (q0 : 0 ≤ q) (q1 : q ≤ 34) (w0 : 10 ≤ w) (w1 : w < 100) (hl : (l : Int) + 2 ≤ q) : f_J6_getChars_ba4f3_22 (f + 1) M (iZ (-w)) (iZ (l + 2)) (iZ 0) = some (iZ l, mu (mu M 34 0 (l + 1) (iZ (48 + w % 10))) 34 0 l (iZ (48 + w / 10 % 10))) := by
  show (if (-100 : Int32) < iZ (-w) then _ else _) = _
  unfold f_J6_getChars_ba4f3_104
  rw [if_pos (show (-100 : Int32) < iZ (-w) by rw [show (-100 : Int32) = iZ (-100) from rfl, z_lt (by omega) (by omega) (by omega) (by omega)]; omega), z_neg, Int.neg_neg, if_pos (of_eq_true (z_vin (by omega) (by omega) (by omega) : vin (iZ w) 100 = True)), hq, z_ix (by omega) (by omega), zc_m1, z_add, z_add, show (l : Int) + 2 + -1 = l + 1 by omega, show (l : Int) + 1 + -1 = l by omega, if_pos (of_eq_true (z_vin (by omega) (by omega) (by omega))), if_pos (by omega), nm_s, if_neg (show ¬ ((-9 : Int32) ≤ iZ (-w)) by rw [show (-9 : Int32) = iZ (-9) from rfl, z_le (by omega) (by omega) (by omega) (by omega)]; omega)]
  rw [z_ix (by omega) (by omega), z_ix (by omega) (by omega), z_ix (by omega) (by omega), show ((l : Int) + 1).toNat = l + 1 by omega, Int.toNat_natCast, mu_miss _ _ (by omega), hq, z_ix (by omega) (by omega), if_pos (of_eq_true (z_vin (by omega) (by omega) (by omega) : vin (iZ w) 100 = True)), if_pos (of_eq_true (z_vin (by omega) (by omega) (by omega))), if_pos (by omega), nm_s, if_pos (by decide : iZ 0 = (0 : Int32)), nI_48 (by omega), nI_48 (by omega)]
  rw [show (48 + ((w.toNat % 10 : Nat) : Int)) = 48 + w % 10 by omega, show (48 + ((w.toNat / 10 : Nat) : Int)) = 48 + w / 10 % 10 by omega]
theorem gc_3 {M : Mem} {w q : Int} {f l : Nat} (hq : M 34 0 100000 = iZ q) (q0 : 0 ≤ q) (q1 : q ≤ 34) (w0 : 100 ≤ w) (w1 : w < 1000000) (hl : (l : Int) + 2 ≤ q) : f_J6_getChars_ba4f3_22 (f + 1) M (iZ (-w)) (iZ (l + 2)) (iZ 0) = f_J6_getChars_ba4f3_22 f (mu (mu M 34 0 (l + 1) (iZ (48 + w % 10))) 34 0 l (iZ (48 + w / 10 % 10))) (iZ (-(w / 100))) (iZ l) (iZ 0) := by
  show (if (-100 : Int32) < iZ (-w) then _ else _) = _
  have e0 : -(w / 100) * 100 - -w = w % 100 := by omega
  rw [if_neg (show ¬ ((-100 : Int32) < iZ (-w)) by rw [show (-100 : Int32) = iZ (-100) from rfl, z_lt (by omega) (by omega) (by omega) (by omega)]; omega), show (100 : Int32) = iZ 100 from rfl, z_divn (by omega) (by omega) (by omega) (by omega), z_mul, z_sub, e0, if_pos (of_eq_true (z_vin (by omega) (by omega) (by omega) : vin (iZ (w % 100)) 100 = True)), hq, z_ix (by omega) (by omega), zc_m1, z_add, z_add, show (l : Int) + 2 + -1 = l + 1 by omega, show (l : Int) + 1 + -1 = l by omega, if_pos (of_eq_true (z_vin (by omega) (by omega) (by omega))), if_pos (by omega), nm_s]
  rw [z_ix (by omega) (by omega), z_ix (by omega) (by omega), z_ix (by omega) (by omega), show ((l : Int) + 1).toNat = l + 1 by omega, Int.toNat_natCast, mu_miss _ _ (by omega), hq, z_ix (by omega) (by omega), if_pos (of_eq_true (z_vin (by omega) (by omega) (by omega) : vin (iZ (w % 100)) 100 = True)), if_pos (of_eq_true (z_vin (by omega) (by omega) (by omega))), if_pos (by omega), nm_s, nI_48 (by omega), nI_48 (by omega)]
  rw [show (48 + (((w % 100).toNat % 10 : Nat) : Int)) = 48 + w % 10 by omega, show (48 + (((w % 100).toNat / 10 : Nat) : Int)) = 48 + w / 10 % 10 by omega]
def Gc (w : Int) (f : Nat) : Prop := ∀ (M : Mem) (q : Int) (l : Nat), M 34 0 100000 = iZ q → 0 ≤ q → q ≤ 34 → (l : Int) + (dg w).length ≤ q → ∃ M2, f_J6_getChars_ba4f3_22 f M (iZ (-w)) (iZ (l + (dg w).length)) (iZ 0) = some (iZ l, M2) ∧ Wr M M2 l (dg w)
theorem Gc_lo {w : Int} (w0 : 0 ≤ w) (w1 : w < 100) (f : Nat) : Gc w (f + 1) := fun M q l hq q0 q1 hl => by
  by_cases h1 : w < 10
  · rw [dg_1 h1] at hl ⊢
    exact ⟨_, gc_1 hq q0 q1 w0 h1 hl, Wr.one _ _ _⟩
  · rw [dg_2 (by omega) w1] at hl ⊢
    exact ⟨_, gc_2 hq q0 q1 (by omega) w1 hl, Wr.two _ _ _ _⟩
theorem Gc_s {w : Int} (w0 : 100 ≤ w) (w1 : w < 1000000) {f : Nat} (h : Gc (w / 100) f) : Gc w (f + 1) := fun M q l hq q0 q1 hl => by
  rw [dg_100 w0 w1] at hl ⊢
  rw [List.length_append] at hl ⊢
  have hl2 : (l : Int) + ((dg (w / 100)).length + 2 : Nat) ≤ q := hl
  have hW := Wr.two M (l + (dg (w / 100)).length) (48 + w / 10 % 10) (48 + w % 10)
  obtain ⟨M2, h1, h2⟩ := h (mu (mu M 34 0 (l + (dg (w / 100)).length + 1) (iZ (48 + w % 10))) 34 0 (l + (dg (w / 100)).length) (iZ (48 + w / 10 % 10))) q l (by rw [mu_miss _ _ (by omega), mu_miss _ _ (by omega)]; exact hq) q0 q1 (by omega)
  refine ⟨M2, ?_, hW.app h2⟩
  rw [← h1]
  have h3 := gc_3 (f := f) (l := l + (dg (w / 100)).length) hq q0 q1 w0 w1 (by omega)
  rw [Int.natCast_add] at h3
  rw [← h3]
  rw [show ((l : Int) + (((dg (w / 100)).length + [48 + w / 10 % 10, 48 + w % 10].length : Nat) : Int)) = (l : Int) + ((dg (w / 100)).length : Int) + 2 by show (l : Int) + (((dg (w / 100)).length + 2 : Nat) : Int) = _; omega]
theorem Gc_all {w : Int} (w0 : 0 ≤ w) (w1 : w < 1000000) (f : Nat) : Gc w (f + 3) := by
  by_cases h1 : w < 100
  · exact Gc_lo w0 h1 (f + 2)
  · refine Gc_s (by omega) w1 ?_
    by_cases h2 : w / 100 < 100
    · exact Gc_lo (by omega) h2 (f + 1)
    · exact Gc_s (by omega) (by omega) (Gc_lo (by omega) (by omega) f)
theorem sb_int {M : Mem} {tx : List Int} {q v : Int} (hT : TC M tx q) (v0 : 0 ≤ v) (v1 : v < 1000000) (hl : (tx.length : Int) + (dg v).length ≤ 34) : ∃ M2 q2, f_J4_append_bf812 M (iZ v) = some M2 ∧ TC M2 (tx ++ dg v) q2 ∧ Ft M M2 := by
  obtain ⟨M1, q1, e1, ⟨h1, h2, h3, h4, h5⟩, e3, e4, e5⟩ := sb_ens hT (m := tx.length + (dg v).length) (by omega) hl
  obtain ⟨M2, p1, p2, p3, p4⟩ := Gc_all v0 v1 4997 M1 q1 tx.length h3 (by omega) (by omega) e3
  refine ⟨mu M2 19 0 3 (iZ (tx.length + (dg v).length)), q1, ?_, ⟨?_, h2, ?_, by rw [List.length_append]; omega, fun j hj => ?_⟩, fun a i k ha hb => ?_⟩
  · unfold f_J4_append_bf812 f_J5_append_c97b9 f_J5_append_c97b9_48 f_J6_getChars_ba4f3 f_J6_getChars_ba4f3_12
    rw [bdq (s_size M v0 v1), hT.1, z_add, bdq e1, bdq (lat1 M1), if_neg n10, if_pos (show (0 : Int32) ≤ iZ v by rw [zc_0, z_le (by omega) (by omega) (by omega) (by omega)]; exact v0), if_pos rfl, z_neg, zc_0, show FU = 4997 + 3 from rfl, p1, bd2_s, nm_s, bd_s]
  · rw [mu_hit, List.length_append, Int.natCast_add]
  · rw [mu_miss _ _ (by omega), p3 _ (by omega)]; exact h3
  · rw [List.length_append] at hj
    rw [mu_miss _ _ (by omega)]
    by_cases e : j < tx.length
    · rw [gD_l e, p3 j (by omega)]; exact h5 j e
    · rw [gD_r (by omega)]
      have := p2 (j - tx.length) (by omega)
      rw [show tx.length + (j - tx.length) = j by omega] at this
      exact this
  · rw [mu_miss _ _ (by omega), p4 a i k hb]; exact e5 a i k ha hb
