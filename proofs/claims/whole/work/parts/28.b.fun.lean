theorem it_4 {p h : Int} {A : Int → Int} (hO : Ok p h A) {a b w q : Int} (ha : i32 a) (hb : i32 b) (hw : i32 w) (hq : i32 q) : ItS A 4 a b w q (fun M => f_X8_postIt M (iZ a) (iZ b) (iZ w) (iZ q)) (fun r => r) := by
  unfold ItS
  rw [rf_4, dO_4]
  refine ⟨fun hf M1 hA => ?_, fun hf M1 hA => ?_⟩ <;> have e := g_postIt hO M1 ha hb hw hq <;> rw [mR_id hA] at e <;> unfold rPo at hf <;> by_cases c : (0 ≤ a ∧ a < A 0) ∧ (0 ≤ b ∧ b < A 0)
  · rw [if_neg (not_not_intro c)] at hf e
    by_cases c2 : a ≠ b ∧ (1 ≤ w ∧ w ≤ 9) ∧ (0 ≤ q ∧ q ≤ 20)
    · rw [if_neg (not_not_intro c2)] at hf e
      by_cases c3 : A 2 < 12
      · rw [if_neg (not_not_intro c3)] at e
        exact ⟨_, e, mR_at _ _ _ _, it_fr _ _⟩
      · rw [if_pos c3] at hf; omega
    · rw [if_pos c2] at hf; omega
  · rw [if_pos c] at hf; omega
  · rw [if_neg (not_not_intro c)] at hf e
    by_cases c2 : a ≠ b ∧ (1 ≤ w ∧ w ≤ 9) ∧ (0 ≤ q ∧ q ≤ 20)
    · rw [if_neg (not_not_intro c2)] at hf e
      by_cases c3 : A 2 < 12
      · rw [if_neg (not_not_intro c3)] at hf; omega
      · rw [if_pos c3] at e
        show _ = some (iZ (-1), mT M1 (rPo A a b w q))
        unfold rPo
        rw [if_neg (not_not_intro c), if_neg (not_not_intro c2), if_pos c3]
        exact e
    · rw [if_pos c2] at e
      show _ = some (iZ (-1), mT M1 (rPo A a b w q))
      unfold rPo
      rw [if_neg (not_not_intro c), if_pos c2]
      exact e
  · rw [if_pos c] at e
    show _ = some (iZ (-1), mT M1 (rPo A a b w q))
    unfold rPo
    rw [if_pos c]
    exact e
theorem it_5 {p h : Int} {A : Int → Int} (hO : Ok p h A) (hm : Rm p h) {a b w q : Int} (ha : i32 a) (hb : i32 b) : ItS A 5 a b w q (fun M => f_X8_sendIt M (iZ a) (iZ b)) (fun r => if r = 4 then 1 else if r = 1 then 2 else 3) := by
  unfold ItS
  rw [rf_5, dO_5]
  refine ⟨fun hf M1 hA => ?_, fun hf M1 hA => ?_⟩ <;> have e := g_sendIt hO hm M1 ha hb <;> rw [mR_id hA] at e <;> unfold rSe at hf <;> by_cases c : sPos A a = -1
  · rw [if_pos c] at hf; omega
  · rw [if_neg c] at hf e
    by_cases c2 : 0 ≤ b ∧ b < A 1
    · rw [if_neg (not_not_intro c2)] at hf e
      by_cases c3 : bC (sMay A (sPos A a) b) = 0
      · rw [if_pos c3] at hf; omega
      · rw [if_neg c3] at e
        exact ⟨_, e, mR_at _ _ _ _, it_fr _ _⟩
    · rw [if_pos c2] at hf; omega
  · rw [if_pos c] at e
    show _ = some (iZ (-1), mT M1 (if rSe A a b = 4 then 1 else if rSe A a b = 1 then 2 else 3))
    unfold rSe
    rw [if_pos c, if_pos rfl]
    exact e
  · rw [if_neg c] at hf e
    by_cases c2 : 0 ≤ b ∧ b < A 1
    · rw [if_neg (not_not_intro c2)] at hf e
      by_cases c3 : bC (sMay A (sPos A a) b) = 0
      · rw [if_pos c3] at e
        show _ = some (iZ (-1), mT M1 (if rSe A a b = 4 then 1 else if rSe A a b = 1 then 2 else 3))
        unfold rSe
        rw [if_neg c, if_neg (not_not_intro c2), if_pos c3, if_neg (by omega : ¬ (3 : Int) = 4), if_neg (by omega : ¬ (3 : Int) = 1)]
        exact e
      · rw [if_neg c3] at hf; omega
    · rw [if_pos c2] at e
      show _ = some (iZ (-1), mT M1 (if rSe A a b = 4 then 1 else if rSe A a b = 1 then 2 else 3))
      unfold rSe
      rw [if_neg c, if_pos c2, if_neg (by omega : ¬ (1 : Int) = 4), if_pos rfl]
      exact e
theorem it_6 {p h : Int} {A : Int → Int} (hO : Ok p h A) (hm : Rm p h) {a b w q : Int} (ha : i32 a) (hb : i32 b) : ItS A 6 a b w q (fun M => f_X8_stampIt M (iZ a) (iZ b)) (fun r => if r = 4 then 1 else r) := by
  unfold ItS
  rw [rf_6, dO_6]
  refine ⟨fun hf M1 hA => ?_, fun hf M1 hA => ?_⟩ <;> have e := g_stampIt hO hm M1 ha hb <;> rw [mR_id hA] at e <;> unfold rSt at hf <;> by_cases c : sPos A a = -1
  · rw [if_pos c] at hf; omega
  · rw [if_neg c] at hf e
    by_cases c2 : 1 ≤ b ∧ b ≤ 20
    · rw [if_neg (not_not_intro c2)] at hf e
      by_cases c3 : A (108 + 7 * sPos A a + 3) + b ≤ 20
      · rw [if_neg (not_not_intro c3)] at e
        exact ⟨_, e, mR_at _ _ _ _, it_fr _ _⟩
      · rw [if_pos c3] at hf; omega
    · rw [if_pos c2] at hf; omega
  · rw [if_pos c] at e
    show _ = some (iZ (-1), mT M1 (if rSt A a b = 4 then 1 else rSt A a b))
    unfold rSt
    rw [if_pos c, if_pos rfl]
    exact e
  · rw [if_neg c] at hf e
    by_cases c2 : 1 ≤ b ∧ b ≤ 20
    · rw [if_neg (not_not_intro c2)] at hf e
      by_cases c3 : A (108 + 7 * sPos A a + 3) + b ≤ 20
      · rw [if_neg (not_not_intro c3)] at hf; omega
      · rw [if_pos c3] at e
        show _ = some (iZ (-1), mT M1 (if rSt A a b = 4 then 1 else rSt A a b))
        unfold rSt
        rw [if_neg c, if_neg (not_not_intro c2), if_pos c3, if_neg (by omega : ¬ (3 : Int) = 4)]
        exact e
    · rw [if_pos c2] at e
      show _ = some (iZ (-1), mT M1 (if rSt A a b = 4 then 1 else rSt A a b))
      unfold rSt
      rw [if_neg c, if_pos c2, if_neg (by omega : ¬ (2 : Int) = 4)]
      exact e
theorem it_7 {p h : Int} {A : Int → Int} (hO : Ok p h A) (hm : Rm p h) {a b w q : Int} (ha : i32 a) : ItS A 7 a b w q (fun M => f_X8_takeIt M (iZ a)) (fun r => if r = 4 then 1 else 2) := by
  unfold ItS
  rw [rf_7, dO_7]
  refine ⟨fun hf M1 hA => ?_, fun hf M1 hA => ?_⟩ <;> have e := g_takeIt hO hm M1 ha <;> rw [mR_id hA] at e <;> unfold rTk at hf <;> by_cases c : sPos A a = -1
  · rw [if_pos c] at hf; omega
  · rw [if_neg c] at hf e
    by_cases c2 : A (108 + 7 * sPos A a + 4) = -1
    · rw [if_pos c2] at hf; omega
    · rw [if_neg c2] at e
      exact ⟨_, e, mR_at _ _ _ _, it_fr _ _⟩
  · rw [if_pos c] at e
    show _ = some (iZ (-1), mT M1 (if rTk A a = 4 then 1 else 2))
    unfold rTk
    rw [if_pos c, if_pos rfl]
    exact e
  · rw [if_neg c] at hf e
    by_cases c2 : A (108 + 7 * sPos A a + 4) = -1
    · rw [if_pos c2] at e
      show _ = some (iZ (-1), mT M1 (if rTk A a = 4 then 1 else 2))
      unfold rTk
      rw [if_neg c, if_pos c2, if_neg (by omega : ¬ (3 : Int) = 4)]
      exact e
    · rw [if_neg c2] at hf; omega
theorem it_8 {p h : Int} {A : Int → Int} (hO : Ok p h A) (hm : Rm p h) (a b w q : Int) (tc : Int → Int) : ItS A 8 a b w q f_X8_dispatchIt tc := by
  unfold ItS
  rw [rf_8, dO_8]
  refine ⟨fun hf M1 hA => ?_, fun hf => absurd rfl hf⟩
  obtain ⟨D, e⟩ := g_dispatchIt hO hm M1
  rw [mR_id hA] at e
  exact ⟨_, e, mR_at _ _ _ _, fun d i l h1 h2 => by rw [mR_ne _ _ (by omega), mR_ne _ _ (by omega)]⟩
theorem it_9 {p h : Int} {A : Int → Int} (hO : Ok p h A) (hm : Rm p (h + 120)) {a b w q : Int} (ha : i32 a) : ItS A 9 a b w q (fun M => f_X8_passIt M (iZ a)) (fun _ => 1) := by
  unfold ItS
  rw [rf_9, dO_9]
  refine ⟨fun hf M1 hA => ?_, fun hf M1 hA => ?_⟩ <;> have e := g_passIt hO hm M1 ha <;> rw [mR_id hA] at e <;> by_cases c : 1 ≤ a ∧ a ≤ 120
  · rw [if_neg (not_not_intro c)] at e
    exact ⟨_, e, mR_at _ _ _ _, it_fr _ _⟩
  · rw [if_neg c] at hf; omega
  · rw [if_pos c] at hf; omega
  · rw [if_pos c] at e
    exact e
/-- a change, whole -/
theorem op_do {n : Int} {M : Mem} (n0 : 0 ≤ n) (n1 : n ≤ 512) {A S : Int → Int} {Bf : Int → Int → Int} {o c v : Int} (hK : Lk (10 * n) (1200 * n) A S Bf o c v) (hL : Lc M A S Bf o c v) (hr : Lr M A S Bf c v) (hx : Lx M) {k a b w q : Int} (k0 : 0 ≤ k) (k1 : k ≤ 10) (ha : i32 a) (hb : i32 b) (hw : i32 w) (hq : i32 q) (hf : rfC A k a b w q = 0) {It : Mem → Option (Int32 × Mem)} {tc : Int → Int} (hI : ItS A k a b w q It tc) :
    ∃ M1 : Mem, f_X7_change M (iZ k) (iZ a) (iZ b) (iZ w) (iZ q) = some (.inl (iZ (dO A k a b w q).2), M1) ∧ ∀ M1b, (∀ d i l, d ≠ 33 → M1b d i l = M1 d i l) → ∃ M2, (bd (f_X8_starts M1b) fun M11 => bd2 (It M11) fun r15 M14 => bd2 (f_X8_changed M14 r15) fun r18 M17 => some (r18, M17)) = some (iZ (dO A k a b w q).2, M2) ∧ M2 20 0 9 = iZ 0 ∧ M2 33 0 0 = M1b 33 0 0 ∧ Rl (n + 1) M2 := by
  have hm : Rm (10 * n) (1200 * n + 120) := by unfold Rm; omega
  obtain ⟨M1, q1, q2, q3⟩ := g_change hK hm hL k0 k1 ha hb hw hq hf
  refine ⟨M1, q1, fun M1b hb1 => ?_⟩
  have hr1 : Lr M1b A S Bf c v := hr.of (fun d i l hd => by rw [hb1 d i l (by omega), q3 d i (by omega)])
  obtain ⟨M2, p1, p2, p3, p4⟩ := g_opDone hr1 hK.2.2.2.1 hK.2.2.2.2.1 (hI.1 hf)
  refine ⟨M2, p1, p2, p4 33 0 0 (by omega) (by omega) (by omega) (by omega) (by omega), _, S, _, _, _, v, Lk.hist hK (by omega) (by omega) ((Ok_dO hK.1 k0 k1 hf).mono (by omega) (by omega)), q2.of (fun d i l hd => ?_), p3, hx.of (fun d i l hd => ?_)⟩
  · rw [p4 d i l (by omega) (by omega) (by omega) (by omega) (by omega), hb1 d i l (by omega)]
  · rw [p4 d i l (by omega) (by omega) (by omega) (by omega) (by omega), hb1 d i l (by omega), q3 d i (by omega)]
theorem gd_op {n : Int} {M : Mem} (n0 : 0 ≤ n) (n1 : n ≤ 512) (hR : Rl n M) {k a b w q : Int} (k0 : 0 ≤ k) (k1 : k ≤ 10) (ha : i32 a) (hb : i32 b) (hw : i32 w) (hq : i32 q) {It : Mem → Option (Int32 × Mem)} {tc : Int → Int} (hI : ∀ p h A, Ok p h A → Rm p (h + 120) → ItS A k a b w q It tc) (ht : ∀ r, 1 ≤ r → r ≤ 4 → 1 ≤ tc r ∧ tc r ≤ 9) {fL : Option (Int32 × Mem)} {fX : Mem → Option (Int32 × Mem)}
    (h1 : ∀ x M1, f_X7_change M (iZ k) (iZ a) (iZ b) (iZ w) (iZ q) = some (.inl x, M1) → fL = some (iZ 0, mu M1 33 0 0 x)) (h2 : ∀ A : Int → Int, rfC A k a b w q ≠ 0 → f_X7_change M (iZ k) (iZ a) (iZ b) (iZ w) (iZ q) = some (.inr (rfC A k a b w q - 1).toNat, M) → fL = some (iZ (tc (rfC A k a b w q)), M))
    (h3 : ∀ M1, fX M1 = (bd (f_X8_starts M1) fun M11 => bd2 (It M11) fun r15 M14 => bd2 (f_X8_changed M14 r15) fun r18 M17 => some (r18, M17))) : Gd n fL fX := by
  obtain ⟨A, S, Bf, o, c, v, hK, hL, hr, hx⟩ := hR
  have hm : Rm (10 * n) (1200 * n + 120) := by unfold Rm; omega
  have hIA := hI _ _ A hK.1 hm
  by_cases hf : rfC A k a b w q = 0
  · obtain ⟨M1, q1, q2⟩ := op_do n0 n1 hK hL hr hx k0 k1 ha hb hw hq hf hIA
    obtain ⟨M2, p1, p2, p3, p4⟩ := q2 (mu M1 33 0 0 (iZ (dO A k a b w q).2)) (fun d i l hd => mu_miss _ _ (by omega))
    exact ⟨_, _, _, M2, h1 _ _ q1, by rw [h3, p1], p2, fun _ => by rw [p3]; exact mu_hit _ _ _ _ _, p4⟩
  · have q1 := g_refused hK.1 hm.lo (hL.2.1 0 (by omega)) hL.1 k0 k1 ha hb hw hq hf
    have hr4 := rfC_in A k a b w q
    have ht4 := ht (rfC A k a b w q) (by omega) hr4.2
    obtain ⟨M2, p1, p2, p3, p4⟩ := g_opNot hr ht4.1 ht4.2 (hIA.2 hf)
    refine ⟨_, _, _, M2, h2 A hf q1, by rw [h3, p1], p2, fun hc => ?_, A, S, Bf, o, c, v, hK.mono (by omega) (by omega), hL.of (fun d i l hd => ?_), p3, hx.of (fun d i l hd => ?_)⟩
    · rw [z_eq (by omega) (by omega) (by omega) (by omega)] at hc; omega
    · rw [p4 d i l (by omega) (by omega)]
    · rw [p4 d i l (by omega) (by omega)]
