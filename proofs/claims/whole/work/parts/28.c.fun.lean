theorem q_addPlace {n : Int} {M : Mem} (n0 : 0 ≤ n) (n1 : n ≤ 512) (hR : Rl n M) : Gd n (f_L_addPlace M) f_X8_addPlace := by
  refine gd_op n0 n1 hR (k := 0) (a := 0) (b := 0) (w := 0) (q := 0) (by omega) (by omega) (by omega) (by omega) (by omega) (by omega) (tc := fun _ => 1) (fun p h A hO hm => it_0 hO 0 0 0 0) (fun r r1 r4 => ?_) (fun x M1 e => ?_) (fun A hf e => ?_) (fun M1 => rfl)
  · show 1 ≤ (1 : Int) ∧ (1 : Int) ≤ 9
    constructor <;> omega
  · have e2 : f_X7_change M (0 : Int32) (0 : Int32) (0 : Int32) (0 : Int32) (0 : Int32) = _ := e
    unfold f_L_addPlace f_X7_addPlace
    rw [e2, bx_l, bxh_l, nm_s]
    rfl
  · have e2 : f_X7_change M (0 : Int32) (0 : Int32) (0 : Int32) (0 : Int32) (0 : Int32) = _ := e
    have hr : rfC A 0 0 0 0 0 = 3 := by
      revert hf
      rw [rf_0]
      repeat' split
      all_goals omega
    unfold f_L_addPlace f_X7_addPlace
    rw [e2, bx_r, bxh_r]
    rw [hr]; rfl
theorem q_addLink {n : Int} {M : Mem} (n0 : 0 ≤ n) (n1 : n ≤ 512) (hR : Rl n M) (xa xb xw xq : Int32) : Gd n (f_L_addLink M xa xb xw xq) (fun M1 => f_X8_addLink M1 xa xb xw xq) := by
  obtain ⟨a, rfl, ha⟩ := z_mk xa
  obtain ⟨b, rfl, hb⟩ := z_mk xb
  obtain ⟨w, rfl, hw⟩ := z_mk xw
  obtain ⟨q, rfl, hq⟩ := z_mk xq
  refine gd_op n0 n1 hR (k := 1) (a := a) (b := b) (w := w) (q := q) (by omega) (by omega) ha hb hw hq (tc := fun r => r) (fun p h A hO hm => it_1 hO ha hb hw hq) (fun r r1 r4 => ?_) (fun x M1 e => ?_) (fun A hf e => ?_) (fun M1 => rfl)
  · show 1 ≤ (r : Int) ∧ (r : Int) ≤ 9
    constructor <;> omega
  · have e2 : f_X7_change M (1 : Int32) (iZ a) (iZ b) (iZ w) (iZ q) = _ := e
    unfold f_L_addLink f_X7_addLink
    rw [e2, bx_l, bxh_l, nm_s]
    rfl
  · have e2 : f_X7_change M (1 : Int32) (iZ a) (iZ b) (iZ w) (iZ q) = _ := e
    have hr : rfC A 1 a b w q = 1 ∨ rfC A 1 a b w q = 2 ∨ rfC A 1 a b w q = 3 := by
      revert hf
      rw [rf_1]
      unfold rLk
      repeat' split
      all_goals omega
    unfold f_L_addLink f_X7_addLink
    rw [e2, bx_r, bxh_r]
    obtain h | h | h := hr <;> rw [h] <;> rfl
theorem q_block {n : Int} {M : Mem} (n0 : 0 ≤ n) (n1 : n ≤ 512) (hR : Rl n M) (xa : Int32) : Gd n (f_L_block M xa) (fun M1 => f_X8_block M1 xa) := by
  obtain ⟨a, rfl, ha⟩ := z_mk xa
  refine gd_op n0 n1 hR (k := 2) (a := a) (b := 0) (w := 0) (q := 0) (by omega) (by omega) ha (by omega) (by omega) (by omega) (tc := fun r => if r = 1 then 1 else 2) (fun p h A hO hm => it_bl hO hm.lo ha (v := 1) (.inl ⟨rfl, rfl⟩)) (fun r r1 r4 => ?_) (fun x M1 e => ?_) (fun A hf e => ?_) (fun M1 => rfl)
  · show 1 ≤ (if r = 1 then 1 else 2 : Int) ∧ (if r = 1 then 1 else 2 : Int) ≤ 9
    by_cases c4 : r = 4 <;> by_cases c1 : r = 1 <;> simp (disch := omega) only [ieq_t, ieq_f, ↓reduceIte] <;> omega
  · have e2 : f_X7_change M (2 : Int32) (iZ a) (0 : Int32) (0 : Int32) (0 : Int32) = _ := e
    unfold f_L_block f_X7_block
    rw [e2, bx_l, bxh_l, nm_s]
    rfl
  · have e2 : f_X7_change M (2 : Int32) (iZ a) (0 : Int32) (0 : Int32) (0 : Int32) = _ := e
    have hr : rfC A 2 a 0 0 0 = 1 ∨ rfC A 2 a 0 0 0 = 3 := by
      revert hf
      rw [rf_2]
      unfold rBl
      repeat' split
      all_goals omega
    unfold f_L_block f_X7_block
    rw [e2, bx_r, bxh_r]
    obtain h | h := hr <;> rw [h] <;> rfl
theorem q_open {n : Int} {M : Mem} (n0 : 0 ≤ n) (n1 : n ≤ 512) (hR : Rl n M) (xa : Int32) : Gd n (f_L_open M xa) (fun M1 => f_X8_open M1 xa) := by
  obtain ⟨a, rfl, ha⟩ := z_mk xa
  refine gd_op n0 n1 hR (k := 3) (a := a) (b := 0) (w := 0) (q := 0) (by omega) (by omega) ha (by omega) (by omega) (by omega) (tc := fun r => if r = 1 then 1 else 2) (fun p h A hO hm => it_bl hO hm.lo ha (v := 0) (.inr ⟨rfl, rfl⟩)) (fun r r1 r4 => ?_) (fun x M1 e => ?_) (fun A hf e => ?_) (fun M1 => rfl)
  · show 1 ≤ (if r = 1 then 1 else 2 : Int) ∧ (if r = 1 then 1 else 2 : Int) ≤ 9
    by_cases c4 : r = 4 <;> by_cases c1 : r = 1 <;> simp (disch := omega) only [ieq_t, ieq_f, ↓reduceIte] <;> omega
  · have e2 : f_X7_change M (3 : Int32) (iZ a) (0 : Int32) (0 : Int32) (0 : Int32) = _ := e
    unfold f_L_open f_X7_open
    rw [e2, bx_l, bxh_l, nm_s]
    rfl
  · have e2 : f_X7_change M (3 : Int32) (iZ a) (0 : Int32) (0 : Int32) (0 : Int32) = _ := e
    have hr : rfC A 3 a 0 0 0 = 1 ∨ rfC A 3 a 0 0 0 = 3 := by
      revert hf
      rw [rf_3]
      unfold rBl
      repeat' split
      all_goals omega
    unfold f_L_open f_X7_open
    rw [e2, bx_r, bxh_r]
    obtain h | h := hr <;> rw [h] <;> rfl
theorem q_post {n : Int} {M : Mem} (n0 : 0 ≤ n) (n1 : n ≤ 512) (hR : Rl n M) (xa xb xw xq : Int32) : Gd n (f_L_post M xa xb xw xq) (fun M1 => f_X8_post M1 xa xb xw xq) := by
  obtain ⟨a, rfl, ha⟩ := z_mk xa
  obtain ⟨b, rfl, hb⟩ := z_mk xb
  obtain ⟨w, rfl, hw⟩ := z_mk xw
  obtain ⟨q, rfl, hq⟩ := z_mk xq
  refine gd_op n0 n1 hR (k := 4) (a := a) (b := b) (w := w) (q := q) (by omega) (by omega) ha hb hw hq (tc := fun r => r) (fun p h A hO hm => it_4 hO ha hb hw hq) (fun r r1 r4 => ?_) (fun x M1 e => ?_) (fun A hf e => ?_) (fun M1 => rfl)
  · show 1 ≤ (r : Int) ∧ (r : Int) ≤ 9
    constructor <;> omega
  · have e2 : f_X7_change M (4 : Int32) (iZ a) (iZ b) (iZ w) (iZ q) = _ := e
    unfold f_L_post f_X7_post
    rw [e2, bx_l, bxh_l, nm_s]
    rfl
  · have e2 : f_X7_change M (4 : Int32) (iZ a) (iZ b) (iZ w) (iZ q) = _ := e
    have hr : rfC A 4 a b w q = 1 ∨ rfC A 4 a b w q = 2 ∨ rfC A 4 a b w q = 3 := by
      revert hf
      rw [rf_4]
      unfold rPo
      repeat' split
      all_goals omega
    unfold f_L_post f_X7_post
    rw [e2, bx_r, bxh_r]
    obtain h | h | h := hr <;> rw [h] <;> rfl
theorem q_send {n : Int} {M : Mem} (n0 : 0 ≤ n) (n1 : n ≤ 512) (hR : Rl n M) (xa xb : Int32) : Gd n (f_L_send M xa xb) (fun M1 => f_X8_send M1 xa xb) := by
  obtain ⟨a, rfl, ha⟩ := z_mk xa
  obtain ⟨b, rfl, hb⟩ := z_mk xb
  refine gd_op n0 n1 hR (k := 5) (a := a) (b := b) (w := 0) (q := 0) (by omega) (by omega) ha hb (by omega) (by omega) (tc := fun r => if r = 4 then 1 else if r = 1 then 2 else 3) (fun p h A hO hm => it_5 hO hm.lo ha hb) (fun r r1 r4 => ?_) (fun x M1 e => ?_) (fun A hf e => ?_) (fun M1 => rfl)
  · show 1 ≤ (if r = 4 then 1 else if r = 1 then 2 else 3 : Int) ∧ (if r = 4 then 1 else if r = 1 then 2 else 3 : Int) ≤ 9
    by_cases c4 : r = 4 <;> by_cases c1 : r = 1 <;> simp (disch := omega) only [ieq_t, ieq_f, ↓reduceIte] <;> omega
  · have e2 : f_X7_change M (5 : Int32) (iZ a) (iZ b) (0 : Int32) (0 : Int32) = _ := e
    unfold f_L_send f_X7_send
    rw [e2, bx_l, bxh_l, nm_s]
    rfl
  · have e2 : f_X7_change M (5 : Int32) (iZ a) (iZ b) (0 : Int32) (0 : Int32) = _ := e
    have hr : rfC A 5 a b 0 0 = 4 ∨ rfC A 5 a b 0 0 = 1 ∨ rfC A 5 a b 0 0 = 3 := by
      revert hf
      rw [rf_5]
      unfold rSe
      repeat' split
      all_goals omega
    unfold f_L_send f_X7_send
    rw [e2, bx_r, bxh_r]
    obtain h | h | h := hr <;> rw [h] <;> rfl
theorem q_addStamps {n : Int} {M : Mem} (n0 : 0 ≤ n) (n1 : n ≤ 512) (hR : Rl n M) (xa xb : Int32) : Gd n (f_L_addStamps M xa xb) (fun M1 => f_X8_addStamps M1 xa xb) := by
  obtain ⟨a, rfl, ha⟩ := z_mk xa
  obtain ⟨b, rfl, hb⟩ := z_mk xb
  refine gd_op n0 n1 hR (k := 6) (a := a) (b := b) (w := 0) (q := 0) (by omega) (by omega) ha hb (by omega) (by omega) (tc := fun r => if r = 4 then 1 else r) (fun p h A hO hm => it_6 hO hm.lo ha hb) (fun r r1 r4 => ?_) (fun x M1 e => ?_) (fun A hf e => ?_) (fun M1 => rfl)
  · show 1 ≤ (if r = 4 then 1 else r : Int) ∧ (if r = 4 then 1 else r : Int) ≤ 9
    by_cases c4 : r = 4 <;> by_cases c1 : r = 1 <;> simp (disch := omega) only [ieq_t, ieq_f, ↓reduceIte] <;> omega
  · have e2 : f_X7_change M (6 : Int32) (iZ a) (iZ b) (0 : Int32) (0 : Int32) = _ := e
    unfold f_L_addStamps f_X7_addStamps
    rw [e2, bx_l, bxh_l, nm_s]
    rfl
  · have e2 : f_X7_change M (6 : Int32) (iZ a) (iZ b) (0 : Int32) (0 : Int32) = _ := e
    have hr : rfC A 6 a b 0 0 = 4 ∨ rfC A 6 a b 0 0 = 2 ∨ rfC A 6 a b 0 0 = 3 := by
      revert hf
      rw [rf_6]
      unfold rSt
      repeat' split
      all_goals omega
    unfold f_L_addStamps f_X7_addStamps
    rw [e2, bx_r, bxh_r]
    obtain h | h | h := hr <;> rw [h] <;> rfl
theorem q_takeBack {n : Int} {M : Mem} (n0 : 0 ≤ n) (n1 : n ≤ 512) (hR : Rl n M) (xa : Int32) : Gd n (f_L_takeBack M xa) (fun M1 => f_X8_takeBack M1 xa) := by
  obtain ⟨a, rfl, ha⟩ := z_mk xa
  refine gd_op n0 n1 hR (k := 7) (a := a) (b := 0) (w := 0) (q := 0) (by omega) (by omega) ha (by omega) (by omega) (by omega) (tc := fun r => if r = 4 then 1 else 2) (fun p h A hO hm => it_7 hO hm.lo ha) (fun r r1 r4 => ?_) (fun x M1 e => ?_) (fun A hf e => ?_) (fun M1 => rfl)
  · show 1 ≤ (if r = 4 then 1 else 2 : Int) ∧ (if r = 4 then 1 else 2 : Int) ≤ 9
    by_cases c4 : r = 4 <;> by_cases c1 : r = 1 <;> simp (disch := omega) only [ieq_t, ieq_f, ↓reduceIte] <;> omega
  · have e2 : f_X7_change M (7 : Int32) (iZ a) (0 : Int32) (0 : Int32) (0 : Int32) = _ := e
    unfold f_L_takeBack f_X7_takeBack
    rw [e2, bx_l, bxh_l, nm_s]
    rfl
  · have e2 : f_X7_change M (7 : Int32) (iZ a) (0 : Int32) (0 : Int32) (0 : Int32) = _ := e
    have hr : rfC A 7 a 0 0 0 = 4 ∨ rfC A 7 a 0 0 0 = 3 := by
      revert hf
      rw [rf_7]
      unfold rTk
      repeat' split
      all_goals omega
    unfold f_L_takeBack f_X7_takeBack
    rw [e2, bx_r, bxh_r]
    obtain h | h := hr <;> rw [h] <;> rfl
theorem q_pass {n : Int} {M : Mem} (n0 : 0 ≤ n) (n1 : n ≤ 512) (hR : Rl n M) (xa : Int32) : Gd n (f_L_pass M xa) (fun M1 => f_X8_pass M1 xa) := by
  obtain ⟨a, rfl, ha⟩ := z_mk xa
  refine gd_op n0 n1 hR (k := 9) (a := a) (b := 0) (w := 0) (q := 0) (by omega) (by omega) ha (by omega) (by omega) (by omega) (tc := fun _ => 1) (fun p h A hO hm => it_9 hO hm ha) (fun r r1 r4 => ?_) (fun x M1 e => ?_) (fun A hf e => ?_) (fun M1 => rfl)
  · show 1 ≤ (1 : Int) ∧ (1 : Int) ≤ 9
    constructor <;> omega
  · have e2 : f_X7_change M (9 : Int32) (iZ a) (0 : Int32) (0 : Int32) (0 : Int32) = _ := e
    unfold f_L_pass f_X7_pass
    rw [e2, bx_l, bxh_l, nm_s]
    rfl
  · have e2 : f_X7_change M (9 : Int32) (iZ a) (0 : Int32) (0 : Int32) (0 : Int32) = _ := e
    have hr : rfC A 9 a 0 0 0 = 2 := by
      revert hf
      rw [rf_9]
      repeat' split
      all_goals omega
    unfold f_L_pass f_X7_pass
    rw [e2, bx_r, bxh_r]
    rw [hr]; rfl
/-- dispatch never throws -/
theorem q_dispatch {n : Int} {M : Mem} (n0 : 0 ≤ n) (n1 : n ≤ 512) (hR : Rl n M) : ∃ r M1 M2, f_X7_dispatch M = some (.inl r, M1) ∧ f_X8_dispatch M1 = some (r, M2) ∧ Rl (n + 1) M2 := by
  obtain ⟨A, S, Bf, o, c, v, hK, hL, hr, hx⟩ := hR
  have hm : Rm (10 * n) (1200 * n + 120) := by unfold Rm; omega
  obtain ⟨M1, q1, q2⟩ := op_do n0 n1 hK hL hr hx (k := 8) (a := 0) (b := 0) (w := 0) (q := 0) (by omega) (by omega) (by omega) (by omega) (by omega) (by omega) (rf_8 _ _ _ _ _) (it_8 hK.1 hm.lo 0 0 0 0 (fun _ => 1))
  obtain ⟨M2, p1, p2, p3, p4⟩ := q2 M1 (fun _ _ _ _ => rfl)
  have e2 : f_X7_change M (8 : Int32) (0 : Int32) (0 : Int32) (0 : Int32) (0 : Int32) = _ := q1
  refine ⟨_, M1, M2, ?_, p1, p4⟩
  unfold f_X7_dispatch
  rw [e2, bx_l]
