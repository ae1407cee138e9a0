/-! Texts: the class's StringBuilder holds tx at capacity q; the reference's line holds tx. -/
def TC (M : Mem) (tx : List Int) (q : Int) : Prop := M 19 0 3 = iZ tx.length ∧ (q = 16 ∨ q = 34) ∧ M 34 0 100000 = iZ q ∧ (tx.length : Int) ≤ q ∧ ∀ j : Nat, j < tx.length → M 34 0 j = iZ (tx.getD j 0)
def TR (M : Mem) (tx : List Int) : Prop := M 20 0 15 = iZ tx.length ∧ ∀ j : Nat, j < tx.length → M 29 0 j = iZ (tx.getD j 0)
def Ft (M M2 : Mem) : Prop := ∀ a i k, a ≠ 19 → a ≠ 34 → M2 a i k = M a i k
def Fs (M M2 : Mem) : Prop := ∀ a i k, a ≠ 29 → ¬ (a = 20 ∧ k = 15) → M2 a i k = M a i k
theorem Ft.tr {M M2 M3 : Mem} (h : Ft M M2) (h2 : Ft M2 M3) : Ft M M3 := fun a i k h3 h4 => (h2 a i k h3 h4).trans (h a i k h3 h4)
theorem Fs.tr {M M2 M3 : Mem} (h : Fs M M2) (h2 : Fs M2 M3) : Fs M M3 := fun a i k h3 h4 => (h2 a i k h3 h4).trans (h a i k h3 h4)
theorem gD_l {l l2 : List Int} {j : Nat} (h : j < l.length) : (l ++ l2).getD j 0 = l.getD j 0 := by
  rw [List.getD_eq_getElem?_getD, List.getD_eq_getElem?_getD, List.getElem?_append_left h]
theorem gD_r {l l2 : List Int} {j : Nat} (h : l.length ≤ j) : (l ++ l2).getD j 0 = l2.getD (j - l.length) 0 := by
  rw [List.getD_eq_getElem?_getD, List.getD_eq_getElem?_getD, List.getElem?_append_right h]
theorem cap_16 : nI (ix (iZ 16)) = iZ 16 := by decide
theorem cap_34 : nI (ix (iZ 34)) = iZ 34 := by decide
theorem shr_0 (x : Int32) : x >>> ((0 : Int32) &&& 31) = x := by
  rw [show (0 : Int32) &&& 31 = 0 by decide]
  exact Int32.shiftRight_zero
theorem shl_0 (x : Int32) : x <<< ((0 : Int32) &&& 31) = x := by
  rw [show (0 : Int32) &&& 31 = 0 by decide]
  exact Int32.shiftLeft_zero
theorem sb_ens {M : Mem} {tx : List Int} {q m : Int} (hT : TC M tx q) (m0 : 0 ≤ m) (m1 : m ≤ 34) : ∃ M2 q2, f_J5_ensureCapacityInternal_d00df M (iZ m) = some M2 ∧ TC M2 tx q2 ∧ m ≤ q2 ∧ q ≤ q2 ∧ Ft M M2 := by
  obtain ⟨h1, h2, h3, h4, h5⟩ := hT
  by_cases hq : m ≤ q
  · refine ⟨M, q, ?_, ⟨h1, h2, h3, h4, h5⟩, hq, Int.le_refl q, fun _ _ _ _ _ => rfl⟩
    unfold f_J5_ensureCapacityInternal_d00df
    rw [h3, shr_0]
    obtain rfl | rfl := h2
    · rw [cap_16, z_sub, if_pos (by rw [zc_0, z_le (by omega) (by omega) (by omega) (by omega)]; omega)]
    · rw [cap_34, z_sub, if_pos (by rw [zc_0, z_le (by omega) (by omega) (by omega) (by omega)]; omega)]
  · obtain rfl : q = 16 := by omega
    refine ⟨mgrow M 16 34, 34, ?_, ⟨?_, .inr rfl, ?_, by omega, fun j hj => ?_⟩, m1, by omega, fun a i k ha hb => ?_⟩
    · have hmax : (if iZ (m - 16) < iZ (16 + 2) then iZ (16 + 2) else iZ (m - 16)) = iZ 18 := by
        by_cases hm : m = 34
        · subst hm; rfl
        · rw [if_pos (show iZ (m - 16) < iZ (16 + 2) by rw [z_lt (by omega) (by omega) (by omega) (by omega)]; omega)]; rfl
      unfold f_J5_ensureCapacityInternal_d00df f_J5_newCapacity_0f7a4 f_J8_newLength_cabcc
      rw [h3, shr_0, cap_16, shl_0, show (2 : Int32) <<< ((0 : Int32) &&& 31) = iZ 2 by decide, z_sub, z_add, if_neg (show ¬ (iZ (m - 16) ≤ 0) by rw [zc_0, z_le (by omega) (by omega) (by omega) (by omega)]; omega), hmax, z_add, if_neg (by decide), if_neg (by decide), bd_s, if_neg (by decide), shr_0, bd_s, if_pos (by decide)]
      rfl
    · show (if (19 = 34 ∧ 0 = 0) then _ else M 19 0) 3 = _
      rw [if_neg (by omega)]; exact h1
    · show (if (34 = 34 ∧ 0 = 0) then (fun k => if k = 100000 then nI 34 else if k < 16 then M 34 0 k else 0) else M 34 0) 100000 = _
      rw [if_pos ⟨rfl, rfl⟩]
      show (if (100000 : Nat) = 100000 then nI 34 else _) = _
      rw [if_pos (by decide)]; rfl
    · show (if (34 = 34 ∧ 0 = 0) then (fun k => if k = 100000 then nI 34 else if k < 16 then M 34 0 k else 0) else M 34 0) j = _
      rw [if_pos ⟨rfl, rfl⟩]
      show (if j = 100000 then nI 34 else if j < 16 then M 34 0 j else 0) = _
      rw [if_neg (by omega), if_pos (by omega)]
      exact h5 j hj
    · show (if (a = 34 ∧ i = 0) then _ else M a i) k = _
      rw [if_neg (by omega)]
theorem lat1 (M : Mem) : f_J5_isLatin1_aae02 M = some (iZ 1) := by unfold f_J5_isLatin1_aae02; rw [if_neg (by decide), if_pos (by decide)]; rfl
theorem b8_ok : ∀ c, c < 128 → (nI c).toInt8.toInt32 = nI c := by decide +kernel
theorem b8_z {c : Int} (c0 : 0 ≤ c) (c1 : c ≤ 127) : (iZ c).toInt8.toInt32 = iZ c := by rw [nI_z c0]; exact b8_ok _ (by omega)
/-- a sign -/
theorem sb_char {M : Mem} {tx : List Int} {q c : Int} (hT : TC M tx q) (hl : (tx.length : Int) + 1 ≤ 34) (c0 : 0 ≤ c) (c1 : c ≤ 127) : ∃ M2 q2, f_J4_append_cf468 M (iZ c) = some M2 ∧ TC M2 (tx ++ [c]) q2 ∧ Ft M M2 := by
  obtain ⟨M1, q1, e1, ⟨h1, h2, h3, h4, h5⟩, e3, e4, e5⟩ := sb_ens hT (m := tx.length + 1) (by omega) hl
  refine ⟨mu (mu M1 19 0 3 (iZ (tx.length + 1))) 34 0 tx.length (iZ c), q1, ?_, ⟨?_, h2, ?_, by rw [List.length_append, List.length_singleton]; omega, fun j hj => ?_⟩, fun a i k ha hb => ?_⟩
  · unfold f_J4_append_cf468 f_J5_append_3fe6f f_J1_canEncode_fc78d
    rw [hT.1, zc_1, z_add, bdq e1, bdq (lat1 M1), if_neg n10, if_neg (show ¬ ((255 : Int32) < iZ c) by rw [show (255 : Int32) = iZ 255 from rfl, z_lt (by omega) (by omega) (by omega) (by omega)]; omega), bd_s, if_neg n10, nm_s, h1, z_add]
    have hq : ix (mu M1 19 0 3 (iZ (tx.length + 1)) 34 0 100000) = q1.toNat := by rw [mu_miss _ _ (by omega), h3, z_ix (by omega) (by omega)]
    rw [hq, if_pos (of_eq_true (z_vin (by omega) (by omega) (by omega))), if_pos (by omega), z_ix (by omega) (by omega), Int.toNat_natCast, b8_z c0 c1, nm_s, bd_s]
  · rw [mu_miss _ _ (by omega), mu_hit, List.length_append, List.length_singleton]; rfl
  · rw [mu_miss _ _ (by omega), mu_miss _ _ (by omega)]; exact h3
  · rw [List.length_append, List.length_singleton] at hj
    by_cases e : j = tx.length
    · subst e
      rw [mu_hit, gD_r (Nat.le_refl _), Nat.sub_self]; rfl
    · rw [mu_miss _ _ (by omega), mu_miss _ _ (by omega), gD_l (by omega)]
      exact h5 j (by omega)
  · rw [mu_miss _ _ (by omega), mu_miss _ _ (by omega)]; exact e5 a i k ha hb
/-- a constant -/
def cst (i : Nat) : List Int := (cByt.getD i []).map Int32.toInt
theorem cst_ok : ∀ i, i < 18 → cLen.getD i 0 = (cst i).length ∧ (cst i).length ≤ 11 ∧ (∀ j, j < (cst i).length → (cByt.getD i []).getD j 0 = iZ ((cst i).getD j 0) ∧ 32 ≤ (cst i).getD j 0 ∧ (cst i).getD j 0 ≤ 126) := by decide +kernel
theorem co0 (M : Mem) (i : Nat) : f_J0_coder_7d493 M i = some (0 : Int32) := by unfold f_J0_coder_7d493; rw [if_neg (by decide)]
theorem len0 (M : Mem) {i : Nat} (hi : i < 18) : f_J0_length_8abf5 M i = some (iZ (cst i).length) := by
  unfold f_J0_length_8abf5
  rw [bdq (co0 M i), shr_0, (cst_ok i hi).1, nI_iZ]
theorem infl0 (M : Mem) (i : Nat) : f_J5_inflateIfNeededFor_a7421 M i = some () := by
  unfold f_J5_inflateIfNeededFor_a7421
  rw [if_neg (by decide), bdq (co0 M i), if_pos (by decide)]
theorem getB {M : Mem} {i : Nat} (hi : i < 18) {l : Nat} {q : Int} (h3 : M 34 0 100000 = iZ q) (q0 : 0 ≤ q) (q1 : q ≤ 34) (hl : (l : Int) + (cst i).length ≤ q) : f_J0_getBytes_840e7 M i (iZ l) (0 : Int32) = some (mcp M (fun j => (cByt.getD i []).getD j 0) l (cst i).length) := by
  have k1 := (cst_ok i hi).1
  unfold f_J0_getBytes_840e7
  rw [bdq (co0 M i), if_pos (by decide), shl_0, k1, nI_iZ, h3, z_ix (by omega) (by omega), z_ix (by omega) (by omega), z_ix (by omega) (by omega), Int.toNat_natCast, Int.toNat_natCast, if_pos (by rw [zc_0, z_lt (by omega) (by omega) (by omega) (by omega)]; omega), if_pos (by rw [zc_0, z_lt (by omega) (by omega) (by omega) (by omega)]; omega), if_pos (Nat.le_refl _), if_pos (by omega), if_pos (by omega), nm_s]
theorem sb_str {M : Mem} {tx : List Int} {q : Int} {i : Nat} (hi : i < 18) (hT : TC M tx q) (hl : (tx.length : Int) + (cst i).length ≤ 34) : ∃ M2 q2, f_J4_append_15ec4 M i = some M2 ∧ TC M2 (tx ++ cst i) q2 ∧ Ft M M2 := by
  obtain ⟨k1, k2, k3⟩ := cst_ok i hi
  obtain ⟨M1, q1, e1, ⟨h1, h2, h3, h4, h5⟩, e3, e4, e5⟩ := sb_ens hT (m := tx.length + (cst i).length) (by omega) hl
  refine ⟨mu (mcp M1 (fun j => (cByt.getD i []).getD j 0) tx.length (cst i).length) 19 0 3 (iZ (tx.length + (cst i).length)), q1, ?_, ⟨?_, h2, ?_, by rw [List.length_append]; omega, fun j hj => ?_⟩, fun a l k ha hb => ?_⟩
  · unfold f_J4_append_15ec4 f_J5_append_cf1ce f_J5_putStringAt_47b60
    rw [bdq (len0 M hi), hT.1, z_add, bdq e1, bdq (infl0 M1 i), h1, bdq (getB hi h3 (by omega) (by omega) (by omega)), bd_s, show mcp M1 (fun j => (cByt.getD i []).getD j 0) tx.length (cst i).length 19 0 3 = iZ tx.length from h1, z_add, nm_s, bd_s]
  · rw [mu_hit, List.length_append, Int.natCast_add]
  · rw [mu_miss _ _ (by omega)]
    show (if (34 = 34 ∧ 0 = 0) then _ else M1 34 0) 100000 = _
    rw [if_pos ⟨rfl, rfl⟩]
    unfold va_cpy
    rw [if_neg (by omega)]; exact h3
  · rw [List.length_append] at hj
    rw [mu_miss _ _ (by omega)]
    show (if (34 = 34 ∧ 0 = 0) then _ else M1 34 0) j = _
    rw [if_pos ⟨rfl, rfl⟩]
    unfold va_cpy
    by_cases e : j < tx.length
    · rw [if_neg (by omega), gD_l e]; exact h5 j e
    · rw [if_pos (by omega), gD_r (by omega), Nat.zero_add]; exact (k3 _ (by omega)).1
  · rw [mu_miss _ _ (by omega)]
    show (if (a = 34 ∧ l = 0) then _ else M1 a l) k = _
    rw [if_neg (by omega)]; exact e5 a l k ha hb
