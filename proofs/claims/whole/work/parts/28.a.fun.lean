/-! A call of the law: the class answers, the reference answers the same, the relation stands again. -/
def Gd (n : Int) (fL : Option (Int32 × Mem)) (fX : Mem → Option (Int32 × Mem)) : Prop := ∃ e M1 r M2, fL = some (e, M1) ∧ fX M1 = some (r, M2) ∧ M2 20 0 9 = e ∧ (e = iZ 0 → M2 33 0 0 = r) ∧ Rl (n + 1) M2
/-- .. of two booleans -/
def GdB (n : Int) (fL : Option (Int32 × Mem)) (fX : Mem → Option (Int32 × Mem)) : Prop := ∃ e M1 b M2, fL = some (e, M1) ∧ fX M1 = some (iZ b, M2) ∧ M2 20 0 9 = e ∧ (e = iZ 0 → M2 33 0 0 = iZ b ∧ (b = 0 ∨ b = 1)) ∧ Rl (n + 1) M2
/-- the class's question, the reference's -/
def QC (M M2 : Mem) : Prop := ∀ a i k, ¬ (a = 8 ∨ a = 9 ∨ a = 10 ∨ a = 18) → M2 a i k = M a i k
def QR (M M2 : Mem) : Prop := ∀ a i k, ¬ (a = 27 ∨ a = 28 ∨ (a = 20 ∧ k = 9)) → M2 a i k = M a i k
theorem QC.rfl' (M : Mem) : QC M M := fun _ _ _ _ => rfl
theorem QC.mW (M : Mem) (D S : Int → Int) : QC M (mW M D S) := fun a i k h => by rw [mW_ne _ _ _ (by omega)]
theorem QC.mR10 (M : Mem) (D : Int → Int) : QC M (mR M 10 0 D) := fun a i k h => by rw [mR_ne _ _ (by omega)]
theorem QC.tr {M M2 M3 : Mem} (h : QC M M2) (h2 : QC M2 M3) : QC M M3 := fun a i k hp => (h2 a i k hp).trans (h a i k hp)
theorem QR.rfl' (M : Mem) : QR M M := fun _ _ _ _ => rfl
theorem QR.mT (M : Mem) (c : Int) : QR M (mT M c) := fun a i k h => mu_miss _ _ (by omega)
theorem QR.mR27 (M : Mem) (D : Int → Int) : QR M (mR M 27 0 D) := fun a i k h => by rw [mR_ne _ _ (by omega)]
theorem QR.tr {M M2 M3 : Mem} (h : QR M M2) (h2 : QR M2 M3) : QR M M3 := fun a i k hp => (h2 a i k hp).trans (h a i k hp)
theorem gd_ok {n : Int} {M M1 : Mem} (hR : Rl n M) {fL : Option (Int32 × Mem)} {fX : Mem → Option (Int32 × Mem)} {r : Int32} (h1 : fL = some (iZ 0, mu M1 33 0 0 r)) (hq : QC M M1) (h2 : ∃ M2, fX (mu M1 33 0 0 r) = some (r, M2) ∧ M2 20 0 9 = iZ 0 ∧ QR (mu M1 33 0 0 r) M2) : Gd n fL fX := by
  obtain ⟨M2, h3, h4, h5⟩ := h2
  refine ⟨_, _, r, M2, h1, h3, h4, fun _ => by rw [h5 33 0 0 (by omega)]; exact mu_hit _ _ _ _ _, Rl.qt (fun a i k hc => ?_) hR⟩
  rw [h5 a i k (by omega), mu_miss _ _ (by omega), hq a i k (by omega)]
theorem gd_no {n : Int} {M M1 : Mem} (hR : Rl n M) {fL : Option (Int32 × Mem)} {fX : Mem → Option (Int32 × Mem)} {e : Int} (e1 : 1 ≤ e) (e9 : e ≤ 9) (h1 : fL = some (iZ e, M1)) (hq : QC M M1) (h2 : ∃ r M2, fX M1 = some (r, M2) ∧ M2 20 0 9 = iZ e ∧ QR M1 M2) : Gd n fL fX := by
  obtain ⟨r, M2, h3, h4, h5⟩ := h2
  refine ⟨_, _, r, M2, h1, h3, h4, fun hc => ?_, Rl.qt (fun a i k hc => ?_) hR⟩
  · rw [z_eq (by omega) (by omega) (by omega) (by omega)] at hc; omega
  · rw [h5 a i k (by omega), hq a i k (by omega)]
theorem gdb_ok {n : Int} {M M1 : Mem} (hR : Rl n M) {fL : Option (Int32 × Mem)} {fX : Mem → Option (Int32 × Mem)} {b : Int} (hb : b = 0 ∨ b = 1) (h1 : fL = some (iZ 0, mu M1 33 0 0 (iZ b))) (hq : QC M M1) (h2 : ∃ M2, fX (mu M1 33 0 0 (iZ b)) = some (iZ b, M2) ∧ M2 20 0 9 = iZ 0 ∧ QR (mu M1 33 0 0 (iZ b)) M2) : GdB n fL fX := by
  obtain ⟨M2, h3, h4, h5⟩ := h2
  refine ⟨_, _, b, M2, h1, h3, h4, fun _ => ⟨by rw [h5 33 0 0 (by omega)]; exact mu_hit _ _ _ _ _, hb⟩, Rl.qt (fun a i k hc => ?_) hR⟩
  rw [h5 a i k (by omega), mu_miss _ _ (by omega), hq a i k (by omega)]
theorem gdb_no {n : Int} {M M1 : Mem} (hR : Rl n M) {fL : Option (Int32 × Mem)} {fX : Mem → Option (Int32 × Mem)} {e : Int} (e1 : 1 ≤ e) (e9 : e ≤ 9) (h1 : fL = some (iZ e, M1)) (hq : QC M M1) (h2 : ∃ b M2, fX M1 = some (iZ b, M2) ∧ M2 20 0 9 = iZ e ∧ QR M1 M2) : GdB n fL fX := by
  obtain ⟨r, M2, h3, h4, h5⟩ := h2
  refine ⟨_, _, r, M2, h1, h3, h4, fun hc => ?_, Rl.qt (fun a i k hc => ?_) hR⟩
  · rw [z_eq (by omega) (by omega) (by omega) (by omega)] at hc; omega
  · rw [h5 a i k (by omega), hq a i k (by omega)]
theorem Rl.view {n : Int} {M : Mem} (n0 : 0 ≤ n) (n1 : n ≤ 512) (hR : Rl n M) : ∃ A p h, Ok p h A ∧ Rm p (h + 120) ∧ Cl M 0 A ∧ Rw M 0 ∧ M 21 0 = rz A := by
  obtain ⟨A, S, Bf, o, c, v, h1, h2, h3, h4⟩ := hR
  exact ⟨A, 10 * n, 1200 * n, h1.1, by unfold Rm; omega, h2.1, h2.2.1 0 (by omega), h3.1⟩
theorem Rm.lo {p h : Int} (hm : Rm p (h + 120)) : Rm p h := by unfold Rm at *; omega
/-! The kinds of changes. -/
theorem rf_0 (A : Int → Int) (a b w q : Int) : rfC A 0 a b w q = if A 0 < 9 then 0 else 3 := by unfold rfC; rw [if_pos rfl]
theorem rf_1 (A : Int → Int) (a b w q : Int) : rfC A 1 a b w q = rLk A a b w q := by unfold rfC; simp (disch := omega) only [ieq_t, ieq_f, ↓reduceIte]
theorem rf_2 (A : Int → Int) (a b w q : Int) : rfC A 2 a b w q = rBl A a 1 := by unfold rfC; simp (disch := omega) only [ieq_t, ieq_f, ↓reduceIte]
theorem rf_3 (A : Int → Int) (a b w q : Int) : rfC A 3 a b w q = rBl A a 0 := by unfold rfC; simp (disch := omega) only [ieq_t, ieq_f, ↓reduceIte]
theorem rf_4 (A : Int → Int) (a b w q : Int) : rfC A 4 a b w q = rPo A a b w q := by unfold rfC; simp (disch := omega) only [ieq_t, ieq_f, ↓reduceIte]
theorem rf_5 (A : Int → Int) (a b w q : Int) : rfC A 5 a b w q = rSe A a b := by unfold rfC; simp (disch := omega) only [ieq_t, ieq_f, ↓reduceIte]
theorem rf_6 (A : Int → Int) (a b w q : Int) : rfC A 6 a b w q = rSt A a b := by unfold rfC; simp (disch := omega) only [ieq_t, ieq_f, ↓reduceIte]
theorem rf_7 (A : Int → Int) (a b w q : Int) : rfC A 7 a b w q = rTk A a := by unfold rfC; simp (disch := omega) only [ieq_t, ieq_f, ↓reduceIte]
theorem rf_8 (A : Int → Int) (a b w q : Int) : rfC A 8 a b w q = 0 := by unfold rfC; simp (disch := omega) only [ieq_t, ieq_f, ↓reduceIte]
theorem rf_9 (A : Int → Int) (a b w q : Int) : rfC A 9 a b w q = if 1 ≤ a ∧ a ≤ 120 then 0 else 2 := by unfold rfC; simp (disch := omega) only [ieq_t, ieq_f, ↓reduceIte]
theorem rf_10 (A : Int → Int) (a b w q : Int) : rfC A 10 a b w q = 0 := by unfold rfC; simp (disch := omega) only [ieq_t, ieq_f, ↓reduceIte]
theorem dO_0 (A : Int → Int) (a b w q : Int) : dO A 0 a b w q = (tPl A, A 0) := by unfold dO; rw [if_pos rfl]
theorem dO_1 (A : Int → Int) (a b w q : Int) : dO A 1 a b w q = (tLk A a b w q, A 1) := by unfold dO; simp (disch := omega) only [ieq_t, ieq_f, ↓reduceIte]
theorem dO_2 (A : Int → Int) (a b w q : Int) : dO A 2 a b w q = (tBl A a 1, sBlk (tBl A a 1)) := by unfold dO; simp (disch := omega) only [ieq_t, ieq_f, ↓reduceIte]
theorem dO_3 (A : Int → Int) (a b w q : Int) : dO A 3 a b w q = (tBl A a 0, sBlk (tBl A a 0)) := by unfold dO; simp (disch := omega) only [ieq_t, ieq_f, ↓reduceIte]
theorem dO_4 (A : Int → Int) (a b w q : Int) : dO A 4 a b w q = (tPo A a b w q, A 3) := by unfold dO; simp (disch := omega) only [ieq_t, ieq_f, ↓reduceIte]
theorem dO_5 (A : Int → Int) (a b w q : Int) : dO A 5 a b w q = (tSe A (sPos A a) b, A 4 + A (8 + 5 * b + 2)) := by unfold dO; simp (disch := omega) only [ieq_t, ieq_f, ↓reduceIte]
theorem dO_6 (A : Int → Int) (a b w q : Int) : dO A 6 a b w q = (tSt A (sPos A a) b, A (108 + 7 * sPos A a + 3) + b) := by unfold dO; simp (disch := omega) only [ieq_t, ieq_f, ↓reduceIte]
theorem dO_7 (A : Int → Int) (a b w q : Int) : dO A 7 a b w q = (tRm A (sPos A a) 6, A (108 + 7 * sPos A a + 3)) := by unfold dO; simp (disch := omega) only [ieq_t, ieq_f, ↓reduceIte]
theorem dO_8 (A : Int → Int) (a b w q : Int) : dO A 8 a b w q = sDi A := by unfold dO; simp (disch := omega) only [ieq_t, ieq_f, ↓reduceIte]
theorem dO_9 (A : Int → Int) (a b w q : Int) : dO A 9 a b w q = pL a.toNat A 0 := by unfold dO; simp (disch := omega) only [ieq_t, ieq_f, ↓reduceIte]
theorem dO_10 (A : Int → Int) (a b w q : Int) : dO A 10 a b w q = sHr A := by unfold dO; simp (disch := omega) only [ieq_t, ieq_f, ↓reduceIte]
/-- the reference's call does as the class's change k -/
def ItS (A : Int → Int) (k a b w q : Int) (It : Mem → Option (Int32 × Mem)) (tc : Int → Int) : Prop :=
  (rfC A k a b w q = 0 → ∀ M1 : Mem, M1 21 0 = rz A → ∃ M2, It M1 = some (iZ (dO A k a b w q).2, M2) ∧ M2 21 0 = rz (dO A k a b w q).1 ∧ ∀ d i l, d ≠ 21 → d ≠ 27 → M2 d i l = M1 d i l) ∧
  (rfC A k a b w q ≠ 0 → ∀ M1 : Mem, M1 21 0 = rz A → It M1 = some (iZ (-1), mT M1 (tc (rfC A k a b w q))))
theorem it_fr (M : Mem) (A2 : Int → Int) : ∀ d i l, d ≠ 21 → d ≠ 27 → mR M 21 0 A2 d i l = M d i l := fun d i l h1 h2 => by rw [mR_ne _ _ (by omega)]
theorem it_0 {p h : Int} {A : Int → Int} (hO : Ok p h A) (a b w q : Int) : ItS A 0 a b w q f_X8_placeIt (fun _ => 1) := by
  unfold ItS
  rw [rf_0, dO_0]
  refine ⟨fun hf M1 hA => ?_, fun hf M1 hA => ?_⟩ <;> have e := g_placeIt hO M1 <;> rw [mR_id hA] at e <;> by_cases c : A 0 < 9
  · rw [if_pos c] at e
    exact ⟨_, e, mR_at _ _ _ _, it_fr _ _⟩
  · rw [if_neg c] at hf; omega
  · rw [if_pos c] at hf; omega
  · rw [if_neg c] at e
    exact e
theorem it_1 {p h : Int} {A : Int → Int} (hO : Ok p h A) {a b w q : Int} (ha : i32 a) (hb : i32 b) (hw : i32 w) (hq : i32 q) : ItS A 1 a b w q (fun M => f_X8_linkIt M (iZ a) (iZ b) (iZ w) (iZ q)) (fun r => r) := by
  unfold ItS
  rw [rf_1, dO_1]
  refine ⟨fun hf M1 hA => ?_, fun hf M1 hA => ?_⟩ <;> have e := g_linkIt hO M1 ha hb hw hq <;> rw [mR_id hA] at e <;> unfold rLk at hf <;> by_cases c : (0 ≤ a ∧ a < A 0) ∧ (0 ≤ b ∧ b < A 0)
  · rw [if_neg (not_not_intro c)] at hf e
    by_cases c2 : a ≠ b ∧ (1 ≤ w ∧ w ≤ 9) ∧ (0 ≤ q ∧ q ≤ 5)
    · rw [if_neg (not_not_intro c2)] at hf e
      by_cases c3 : A 1 < 20
      · rw [if_neg (not_not_intro c3)] at e
        exact ⟨_, e, mR_at _ _ _ _, it_fr _ _⟩
      · rw [if_pos c3] at hf; omega
    · rw [if_pos c2] at hf; omega
  · rw [if_pos c] at hf; omega
  · rw [if_neg (not_not_intro c)] at hf e
    by_cases c2 : a ≠ b ∧ (1 ≤ w ∧ w ≤ 9) ∧ (0 ≤ q ∧ q ≤ 5)
    · rw [if_neg (not_not_intro c2)] at hf e
      by_cases c3 : A 1 < 20
      · rw [if_neg (not_not_intro c3)] at hf; omega
      · rw [if_pos c3] at e
        show _ = some (iZ (-1), mT M1 (rLk A a b w q))
        unfold rLk
        rw [if_neg (not_not_intro c), if_neg (not_not_intro c2), if_pos c3]
        exact e
    · rw [if_pos c2] at e
      show _ = some (iZ (-1), mT M1 (rLk A a b w q))
      unfold rLk
      rw [if_neg (not_not_intro c), if_pos c2]
      exact e
  · rw [if_pos c] at e
    show _ = some (iZ (-1), mT M1 (rLk A a b w q))
    unfold rLk
    rw [if_pos c]
    exact e
theorem it_bl {p h : Int} {A : Int → Int} (hO : Ok p h A) (hm : Rm p h) {k a b w q v : Int} (ha : i32 a) (hv : (k = 2 ∧ v = 1) ∨ (k = 3 ∧ v = 0)) : ItS A k a b w q (fun M => f_X8_blockIt M (iZ a) (iZ v)) (fun r => if r = 1 then 1 else 2) := by
  have h1 : rfC A k a b w q = rBl A a v := by
    obtain ⟨rfl, rfl⟩ | ⟨rfl, rfl⟩ := hv
    · exact rf_2 _ _ _ _ _
    · exact rf_3 _ _ _ _ _
  have h2 : dO A k a b w q = (tBl A a v, sBlk (tBl A a v)) := by
    obtain ⟨rfl, rfl⟩ | ⟨rfl, rfl⟩ := hv
    · exact dO_2 _ _ _ _ _
    · exact dO_3 _ _ _ _ _
  unfold ItS
  rw [h1, h2]
  refine ⟨fun hf M1 hA => ?_, fun hf M1 hA => ?_⟩ <;> have e := g_blockIt hO hm M1 ha (by omega : 0 ≤ v) (by omega) <;> rw [mR_id hA] at e <;> unfold rBl at hf <;> by_cases c : 0 ≤ a ∧ a < A 1
  · rw [if_neg (not_not_intro c)] at hf e
    by_cases c2 : A (8 + 5 * a + 4) = v
    · rw [if_pos c2] at hf; omega
    · rw [if_neg c2] at e
      exact ⟨_, e, mR_at _ _ _ _, it_fr _ _⟩
  · rw [if_pos c] at hf; omega
  · rw [if_neg (not_not_intro c)] at hf e
    by_cases c2 : A (8 + 5 * a + 4) = v
    · rw [if_pos c2] at e
      show _ = some (iZ (-1), mT M1 (if rBl A a v = 1 then 1 else 2))
      unfold rBl
      rw [if_neg (not_not_intro c), if_pos c2, if_neg (by omega : ¬ (3 : Int) = 1)]
      exact e
    · rw [if_neg c2] at hf; omega
  · rw [if_pos c] at e
    show _ = some (iZ (-1), mT M1 (if rBl A a v = 1 then 1 else 2))
    unfold rBl
    rw [if_pos c, if_pos rfl]
    exact e
