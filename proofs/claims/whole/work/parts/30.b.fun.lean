/-- a number's digits -/
def dg (v : Int) : List Int := if v < 10 then [48 + v % 10] else if v < 100 then [48 + v / 10 % 10, 48 + v % 10] else if v < 1000 then [48 + v / 100 % 10, 48 + v / 10 % 10, 48 + v % 10] else if v < 10000 then [48 + v / 1000 % 10, 48 + v / 100 % 10, 48 + v / 10 % 10, 48 + v % 10] else if v < 100000 then [48 + v / 10000 % 10, 48 + v / 1000 % 10, 48 + v / 100 % 10, 48 + v / 10 % 10, 48 + v % 10] else [48 + v / 100000 % 10, 48 + v / 10000 % 10, 48 + v / 1000 % 10, 48 + v / 100 % 10, 48 + v / 10 % 10, 48 + v % 10]
theorem dg_1 {v : Int} (h : v < 10) : dg v = [48 + v % 10] := by unfold dg; rw [if_pos h]
theorem dg_2 {v : Int} (h0 : 10 ≤ v) (h : v < 100) : dg v = [48 + v / 10 % 10, 48 + v % 10] := by unfold dg; rw [if_neg (by omega), if_pos h]
theorem dg_3 {v : Int} (h0 : 100 ≤ v) (h : v < 1000) : dg v = [48 + v / 100 % 10, 48 + v / 10 % 10, 48 + v % 10] := by unfold dg; rw [if_neg (by omega), if_neg (by omega), if_pos h]
theorem dg_4 {v : Int} (h0 : 1000 ≤ v) (h : v < 10000) : dg v = [48 + v / 1000 % 10, 48 + v / 100 % 10, 48 + v / 10 % 10, 48 + v % 10] := by unfold dg; rw [if_neg (by omega), if_neg (by omega), if_neg (by omega), if_pos h]
theorem dg_5 {v : Int} (h0 : 10000 ≤ v) (h : v < 100000) : dg v = [48 + v / 10000 % 10, 48 + v / 1000 % 10, 48 + v / 100 % 10, 48 + v / 10 % 10, 48 + v % 10] := by unfold dg; rw [if_neg (by omega), if_neg (by omega), if_neg (by omega), if_neg (by omega), if_pos h]
theorem dg_6 {v : Int} (h0 : 100000 ≤ v) : dg v = [48 + v / 100000 % 10, 48 + v / 10000 % 10, 48 + v / 1000 % 10, 48 + v / 100 % 10, 48 + v / 10 % 10, 48 + v % 10] := by unfold dg; rw [if_neg (by omega), if_neg (by omega), if_neg (by omega), if_neg (by omega), if_neg (by omega)]
theorem dg_ex (v : Int) : (v < 10 ∧ (dg v).length = 1) ∨ (10 ≤ v ∧ v < 100 ∧ (dg v).length = 2) ∨ (100 ≤ v ∧ v < 1000 ∧ (dg v).length = 3) ∨ (1000 ≤ v ∧ v < 10000 ∧ (dg v).length = 4) ∨ (10000 ≤ v ∧ v < 100000 ∧ (dg v).length = 5) ∨ (100000 ≤ v ∧ (dg v).length = 6) := by
  by_cases h1 : v < 10
  · exact .inl ⟨h1, by rw [dg_1 h1]; rfl⟩
  · by_cases h2 : v < 100
    · exact .inr (.inl ⟨by omega, h2, by rw [dg_2 (by omega) h2]; rfl⟩)
    · by_cases h3 : v < 1000
      · exact .inr (.inr (.inl ⟨by omega, h3, by rw [dg_3 (by omega) h3]; rfl⟩))
      · by_cases h4 : v < 10000
        · exact .inr (.inr (.inr (.inl ⟨by omega, h4, by rw [dg_4 (by omega) h4]; rfl⟩)))
        · by_cases h5 : v < 100000
          · exact .inr (.inr (.inr (.inr (.inl ⟨by omega, h5, by rw [dg_5 (by omega) h5]; rfl⟩))))
          · exact .inr (.inr (.inr (.inr (.inr ⟨by omega, by rw [dg_6 (by omega)]; rfl⟩))))
theorem dg_100 {v : Int} (h0 : 100 ≤ v) (h1 : v < 1000000) : dg v = dg (v / 100) ++ [48 + v / 10 % 10, 48 + v % 10] := by
  by_cases h3 : v < 1000
  · rw [dg_3 h0 h3, dg_1 (by omega)]; rfl
  · by_cases h4 : v < 10000
    · rw [dg_4 (by omega) h4, dg_2 (by omega) (by omega), show v / 100 / 10 = v / 1000 by omega]; rfl
    · by_cases h5 : v < 100000
      · rw [dg_5 (by omega) h5, dg_3 (by omega) (by omega), show v / 100 / 10 = v / 1000 by omega, show v / 100 / 100 = v / 10000 by omega]; rfl
      · rw [dg_6 (by omega), dg_4 (by omega) (by omega), show v / 100 / 10 = v / 1000 by omega, show v / 100 / 100 = v / 10000 by omega, show v / 100 / 1000 = v / 100000 by omega]; rfl
def Pt (tx : List Int) : Prop := ∀ c, c ∈ tx → 32 ≤ c ∧ c ≤ 126
theorem Pt.app {a b : List Int} (ha : Pt a) (hb : Pt b) : Pt (a ++ b) := fun c hc => by
  rw [List.mem_append] at hc
  exact hc.elim (ha c) (hb c)
theorem Pt.at {tx : List Int} (h : Pt tx) {j : Nat} (hj : j < tx.length) : 32 ≤ tx.getD j 0 ∧ tx.getD j 0 ≤ 126 := by
  rw [List.getD_eq_getElem?_getD, List.getElem?_eq_getElem hj]
  exact h _ (List.getElem_mem hj)
theorem Pt_dg {v : Int} (h0 : 0 ≤ v) : Pt (dg v) := by
  intro c hc
  unfold dg at hc
  repeat' split at hc
  all_goals
    simp only [List.mem_cons, List.not_mem_nil, or_false] at hc
    omega
theorem Pt_cst {i : Nat} (hi : i < 18) : Pt (cst i) := by
  intro c hc
  obtain ⟨j, hj, rfl⟩ := List.getElem_of_mem hc
  have := ((cst_ok i hi).2.2 j hj).2
  rw [List.getD_eq_getElem?_getD, List.getElem?_eq_getElem hj] at this
  exact this
theorem Pt_1 {c : Int} (h0 : 32 ≤ c) (h1 : c ≤ 126) : Pt [c] := fun d hd => by
  rw [List.mem_singleton] at hd; omega
/-! the reference writes numbers -/
theorem r_sign {M : Mem} {tx : List Int} (hT : TR M tx) (hl : tx.length + 1 ≤ 60) (c : Int) : ∃ M2, f_X8_sign M (iZ c) = some M2 ∧ TR M2 (tx ++ [c]) ∧ Fs M M2 := by
  obtain ⟨h1, h2⟩ := hT
  refine ⟨mu (mu M 29 0 tx.length (iZ c)) 20 0 15 (iZ (tx.length + 1)), ?_, ⟨?_, fun j hj => ?_⟩, fun a i k ha hb => ?_⟩
  · unfold f_X8_sign
    rw [h1, if_pos (of_eq_true (z_vin (by omega) (by omega) (by omega))), z_ix (by omega) (by omega), Int.toNat_natCast, nm_s, mu_miss _ _ (by omega), h1, zc_1, z_add, nm_s]
  · rw [mu_hit, List.length_append, List.length_singleton]; rfl
  · rw [List.length_append, List.length_singleton] at hj
    rw [mu_miss _ _ (by omega)]
    by_cases e : j = tx.length
    · subst e
      rw [mu_hit, gD_r (Nat.le_refl _), Nat.sub_self]; rfl
    · rw [mu_miss _ _ (by omega), gD_l (by omega)]
      exact h2 j (by omega)
  · rw [mu_miss _ _ (by omega), mu_miss _ _ (by omega)]
/-- .. a number's rest from a tenth on -/
def W18 (v : Int) (f : Nat) (t : Int) (L : List Int) : Prop := ∀ (M : Mem) (tx : List Int), TR M tx → tx.length + L.length ≤ 60 → ∃ M2, f_X8_writesNumber_18 f M (iZ v) (iZ t) = some M2 ∧ TR M2 (tx ++ L) ∧ Fs M M2
theorem W18_0 (v : Int) (f : Nat) : W18 v (f + 1) 0 [] := fun M tx hT _ => ⟨M, by
  unfold f_X8_writesNumber_18
  rw [if_pos (by decide)], by rw [List.append_nil]; exact hT, fun _ _ _ _ _ => rfl⟩
theorem W18_s {v : Int} (v0 : 0 ≤ v) (v1 : v < 1000000) {f : Nat} {t t2 : Int} {L : List Int} (t0 : 1 ≤ t) (t1 : t ≤ 100000) (h : t / 10 = t2) (hW : W18 v f t2 L) : W18 v (f + 1) t ((48 + v / t % 10) :: L) := fun M tx hT hl => by
  have hvt : 0 ≤ v / t := Int.ediv_nonneg v0 (by omega)
  have hvt2 : v / t ≤ v := Int.ediv_le_self t v0
  obtain ⟨M1, q1, q2, q3⟩ := r_sign hT (by rw [List.length_cons] at hl; omega) (48 + v / t % 10)
  obtain ⟨M2, p1, p2, p3⟩ := hW M1 _ q2 (by rw [List.length_append, List.length_singleton]; rw [List.length_cons] at hl; omega)
  refine ⟨M2, ?_, by rw [List.append_assoc] at p2; exact p2, q3.tr p3⟩
  unfold f_X8_writesNumber_18
  rw [if_neg (by rw [zc_0, z_le (by omega) (by omega) (by omega) (by omega)]; omega), if_pos (by rw [zc_0]; exact ne_z (by omega) (by omega) (by omega)), z_div v0 (by omega) (by omega) (by omega), zc_10, z_rem hvt (by omega) (by omega) (by omega), zc_48, z_add, bdq q1, z_div (by omega) (by omega) (by omega) (by omega), h]
  exact p1
theorem W18_1 {v : Int} (v0 : 0 ≤ v) (v1 : v < 1000000) (f : Nat) : W18 v (f + 2) 1 [48 + v % 10] := by
  have h := W18_s v0 v1 (t := 1) (by omega) (by omega) (by decide : (1 : Int) / 10 = 0) (W18_0 v f)
  rw [Int.ediv_one] at h
  exact h
theorem W18_2 {v : Int} (v0 : 0 ≤ v) (v1 : v < 1000000) (f : Nat) : W18 v (f + 3) 10 [48 + v / 10 % 10, 48 + v % 10] := W18_s v0 v1 (by omega) (by omega) (by decide : (10 : Int) / 10 = 1) (W18_1 v0 v1 f)
theorem W18_3 {v : Int} (v0 : 0 ≤ v) (v1 : v < 1000000) (f : Nat) : W18 v (f + 4) 100 [48 + v / 100 % 10, 48 + v / 10 % 10, 48 + v % 10] := W18_s v0 v1 (by omega) (by omega) (by decide : (100 : Int) / 10 = 10) (W18_2 v0 v1 f)
theorem W18_4 {v : Int} (v0 : 0 ≤ v) (v1 : v < 1000000) (f : Nat) : W18 v (f + 5) 1000 [48 + v / 1000 % 10, 48 + v / 100 % 10, 48 + v / 10 % 10, 48 + v % 10] := W18_s v0 v1 (by omega) (by omega) (by decide : (1000 : Int) / 10 = 100) (W18_3 v0 v1 f)
theorem W18_5 {v : Int} (v0 : 0 ≤ v) (v1 : v < 1000000) (f : Nat) : W18 v (f + 6) 10000 [48 + v / 10000 % 10, 48 + v / 1000 % 10, 48 + v / 100 % 10, 48 + v / 10 % 10, 48 + v % 10] := W18_s v0 v1 (by omega) (by omega) (by decide : (10000 : Int) / 10 = 1000) (W18_4 v0 v1 f)
theorem W18_6 {v : Int} (v0 : 0 ≤ v) (v1 : v < 1000000) (f : Nat) : W18 v (f + 7) 100000 [48 + v / 100000 % 10, 48 + v / 10000 % 10, 48 + v / 1000 % 10, 48 + v / 100 % 10, 48 + v / 10 % 10, 48 + v % 10] := W18_s v0 v1 (by omega) (by omega) (by decide : (100000 : Int) / 10 = 10000) (W18_5 v0 v1 f)
theorem w2_n {M : Mem} {v t : Int} {f : Nat} (v0 : 0 ≤ v) (v1 : v < 1000000) (t0 : 1 ≤ t) (t1 : t ≤ 100000) (h : 10 ≤ v / t) : f_X8_writesNumber_2 (f + 1) M (iZ v) (iZ t) = f_X8_writesNumber_2 f M (iZ v) (iZ (t * 10)) := by
  have hvt2 : v / t ≤ v := Int.ediv_le_self t v0
  show (if ¬ iZ t = 0 then _ else _) = _
  rw [if_pos (by rw [zc_0]; exact ne_z (by omega) (by omega) (by omega)), z_div v0 (by omega) (by omega) (by omega), if_neg (by rw [zc_9, z_le (by omega) (by omega) (by omega) (by omega)]; omega), zc_10, z_mul]
theorem w2_e {M : Mem} {v t : Int} {f : Nat} (v0 : 0 ≤ v) (v1 : v < 1000000) (t0 : 1 ≤ t) (t1 : t ≤ 100000) (h : v / t ≤ 9) : f_X8_writesNumber_2 (f + 1) M (iZ v) (iZ t) = f_X8_writesNumber_18 FU M (iZ v) (iZ t) := by
  have hvt : 0 ≤ v / t := Int.ediv_nonneg v0 (by omega)
  show (if ¬ iZ t = 0 then _ else _) = _
  rw [if_pos (by rw [zc_0]; exact ne_z (by omega) (by omega) (by omega)), z_div v0 (by omega) (by omega) (by omega), if_pos (by rw [zc_9, z_le (by omega) (by omega) (by omega) (by omega)]; omega)]
theorem r_num {M : Mem} {tx : List Int} (hT : TR M tx) {v : Int} (v0 : 0 ≤ v) (v1 : v < 1000000) (hl : tx.length + (dg v).length ≤ 60) : ∃ M2, f_X8_writesNumber M (iZ v) = some M2 ∧ TR M2 (tx ++ dg v) ∧ Fs M M2 := by
  unfold f_X8_writesNumber
  rw [zc_1, show f_X8_writesNumber_2 FU M (iZ v) (iZ 1) = f_X8_writesNumber_2 (4994 + 1 + 1 + 1 + 1 + 1 + 1) M (iZ v) (iZ 1) from rfl]
  by_cases h1 : v < 10
  · rw [w2_e v0 v1 (by omega) (by omega) (by omega)]
    rw [dg_1 h1] at hl ⊢
    exact W18_1 v0 v1 4998 M tx hT hl
  · by_cases h2 : v < 100
    · rw [w2_n v0 v1 (by omega) (by omega) (by omega), show (1 : Int) * 10 = 10 by decide, w2_e v0 v1 (by omega) (by omega) (by omega)]
      rw [dg_2 (by omega) h2] at hl ⊢
      exact W18_2 v0 v1 4997 M tx hT hl
    · by_cases h3 : v < 1000
      · rw [w2_n v0 v1 (by omega) (by omega) (by omega), show (1 : Int) * 10 = 10 by decide, w2_n v0 v1 (by omega) (by omega) (by omega), show (10 : Int) * 10 = 100 by decide, w2_e v0 v1 (by omega) (by omega) (by omega)]
        rw [dg_3 (by omega) h3] at hl ⊢
        exact W18_3 v0 v1 4996 M tx hT hl
      · by_cases h4 : v < 10000
        · rw [w2_n v0 v1 (by omega) (by omega) (by omega), show (1 : Int) * 10 = 10 by decide, w2_n v0 v1 (by omega) (by omega) (by omega), show (10 : Int) * 10 = 100 by decide, w2_n v0 v1 (by omega) (by omega) (by omega), show (100 : Int) * 10 = 1000 by decide, w2_e v0 v1 (by omega) (by omega) (by omega)]
          rw [dg_4 (by omega) h4] at hl ⊢
          exact W18_4 v0 v1 4995 M tx hT hl
        · by_cases h5 : v < 100000
          · rw [w2_n v0 v1 (by omega) (by omega) (by omega), show (1 : Int) * 10 = 10 by decide, w2_n v0 v1 (by omega) (by omega) (by omega), show (10 : Int) * 10 = 100 by decide, w2_n v0 v1 (by omega) (by omega) (by omega), show (100 : Int) * 10 = 1000 by decide, w2_n v0 v1 (by omega) (by omega) (by omega), show (1000 : Int) * 10 = 10000 by decide, w2_e v0 v1 (by omega) (by omega) (by omega)]
            rw [dg_5 (by omega) h5] at hl ⊢
            exact W18_5 v0 v1 4994 M tx hT hl
          · rw [w2_n v0 v1 (by omega) (by omega) (by omega), show (1 : Int) * 10 = 10 by decide, w2_n v0 v1 (by omega) (by omega) (by omega), show (10 : Int) * 10 = 100 by decide, w2_n v0 v1 (by omega) (by omega) (by omega), show (100 : Int) * 10 = 1000 by decide, w2_n v0 v1 (by omega) (by omega) (by omega), show (1000 : Int) * 10 = 10000 by decide, w2_n v0 v1 (by omega) (by omega) (by omega), show (10000 : Int) * 10 = 100000 by decide, w2_e v0 v1 (by omega) (by omega) (by omega)]
            rw [dg_6 (by omega)] at hl ⊢
            exact W18_6 v0 v1 4993 M tx hT hl
