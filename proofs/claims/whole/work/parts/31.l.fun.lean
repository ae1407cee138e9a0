/-! The run: the class as a whole. -/
theorem c_parse {M : Mem} {m : Int} {T : Int → Int} (hT : CT M m T) : ∃ M2, f_X4_parse M = some (iZ (if (PR (hx T m) m 11 0 []).1 = none then 1 else 0), M2) ∧ Fq M M2 ∧ (∀ e, (PR (hx T m) m 11 0 []).1 = some e → M2 13 0 5 = iZ e) ∧ ((PR (hx T m) m 11 0 []).1 = none → M2 13 0 4 = iZ (PR (hx T m) m 11 0 []).2.length ∧ HC M2 (PR (hx T m) m 11 0 []).2 ∧ (PR (hx T m) m 11 0 []).2.length ≤ 10) := by
  have hT2 : CT (mu (mu M 13 0 4 (iZ 0)) 13 0 5 (iZ 0)) m T := hT.of (by rw [mu_miss _ _ (by omega), mu_miss _ _ (by omega)]) (fun k => by rw [mu_miss _ _ (by omega), mu_miss _ _ (by omega)])
  obtain ⟨M2, q1, q2, q3, q4⟩ := g_parse_14 11 FU (mu (mu M 13 0 4 (iZ 0)) 13 0 5 (iZ 0)) 0 0 [] rfl (by unfold FU; omega) (by show 6 * ((0 : Nat) : Int) ≤ 0; omega) hT.1 hT2 (by rw [mu_miss _ _ (by omega), mu_hit]; rfl) (mu_hit _ _ _ _ _) (by omega) (by omega) (fun c hc => absurd hc (Nat.not_lt_zero _))
  refine ⟨M2, ?_, fun d i k h1 h2 h3 => by rw [q2 d i k h1 h2 h3, mu_miss _ _ (by omega), mu_miss _ _ (by omega)], q3, q4⟩
  unfold f_X4_parse
  rw [nm_s, nm_s, zc_0]
  exact q1
theorem c_err {M : Mem} {T : Int → Int} {m e : Int} (hT : CT M m T) (he : (PR (hx T m) m 11 0 []).1 = some e) :
    ∃ M2, f_X7_run M = some (.inr 1, M2) ∧ M2 0 0 9 = iZ e ∧ M2 13 0 1 = iZ 0 ∧ ∀ d i k, d ≠ 13 → d ≠ 15 → d ≠ 17 → ¬ (d = 0 ∧ k = 9) → M2 d i k = M d i k := by
  obtain ⟨M1, q1, q2, q3, -⟩ := c_parse hT
  refine ⟨mu (mu M1 13 0 1 (iZ 0)) 0 0 9 (iZ e), ?_, mu_hit _ _ _ _ _, ?_, fun d i k h1 h2 h3 h4 => ?_⟩
  · unfold f_X7_run
    rw [q1, bd2_s, nm_s, if_neg (show ¬ ((PR (hx T m) m 11 0 []).1 = none) by rw [he]; exact fun h => by cases h), if_pos (by decide), mu_miss _ _ (by omega), q3 e he, nm_s]
    rfl
  · rw [mu_miss _ _ (by omega), mu_hit]
  · rw [mu_miss _ _ (by omega), mu_miss _ _ (by omega), q2 d i k (by omega) h2 h3]
/-- the commands are parsed and tried -/
theorem c_mid {p h : Int} {M : Mem} {A S T : Int → Int} {Bf : Int → Int → Int} {o c v m : Int} {cs : List (Nat × List Int)} (hK : Lk p h A S Bf o c v) (hL : Lc M A S Bf o c v) (hT : CT M m T) (he : PR (hx T m) m 11 0 [] = (none, cs)) (hG : Gk cs) (hm : Rm (p + cs.length) (h + 120 * cs.length + 120)) :
    ∃ M2, f_X7_run M = (if iZ cs.length ≤ iZ (exP cs.length (exR cs 0 A).1) then bd (f_X0_keep M2 0) fun M32 => bd (f_X5_copyFrom M32 0 1) fun M35 => some (.inl (iZ (exP cs.length (exR cs 0 A).1)), M35) else nm (mu M2 0 0 10 (iZ (exP cs.length (exR cs 0 A).1))) fun M37 => some (.inr 2, M37)) ∧ cs.length ≤ 10 ∧ Lc M2 A S Bf o c v ∧ M2 13 0 1 = iZ 0 ∧ ((exR cs 0 A).1 = none → Cl M2 1 (exR cs 0 A).2) ∧ ∀ d i k, ¬ (d = 1 ∨ d = 2 ∨ d = 4 ∨ d = 5 ∨ d = 6 ∨ d = 8 ∨ d = 9 ∨ d = 10 ∨ d = 13 ∨ d = 15 ∨ d = 17) → M2 d i k = M d i k := by
  have hO := hK.1
  obtain ⟨M1, q1, q2, -, q4⟩ := c_parse hT
  rw [he] at q1 q4
  obtain ⟨q4, q5, q6⟩ := q4 rfl
  have q4 : M1 13 0 4 = iZ cs.length := q4
  have q5 : HC M1 cs := q5
  have q6 : cs.length ≤ 10 := q6
  have w : ∀ d i k, ¬ (d = 13 ∧ k = 1) → mu M1 13 0 1 (iZ 0) d i k = M1 d i k := fun d i k a => mu_miss _ _ (by omega)
  have hL1 : Lc (mu M1 13 0 1 (iZ 0)) A S Bf o c v := hL.of (fun d i k hd => by rw [w d i k (by omega), q2 d i k (by omega) (by omega) (by omega)])
  obtain ⟨M2, r1, r2, r3, r4⟩ := g_copySrv hO (s := 1) (t := 0) (by omega) (by omega) (by omega) (hL1.2.1 1 (by omega)) (hL1.2.1 0 (by omega)) hL1.1
  have h4 : M2 13 0 4 = iZ cs.length := by rw [r4 13 0 (by unfold own; omega), w 13 0 4 (by omega)]; exact q4
  have hC : HC M2 cs := fun d hd => by
    rw [r4 15 0 (by unfold own; omega), r4 17 d (by unfold own; omega)]
    have := q5 d hd
    refine ⟨by rw [w 15 0 d (by omega)]; exact this.1, fun j hj => by rw [w 17 d j (by omega)]; exact this.2 j hj⟩
  obtain ⟨M3, s1, s2, s3, s4⟩ := g_exec q6 hG cs 0 FU M2 A p h rfl (by omega) (by unfold FU; omega) h4 hC r2 r3 hO hm
  have hF : FS 1 (mu M1 13 0 1 (iZ 0)) M3 := r4.tr s3
  refine ⟨M3, ?_, q6, Lc.trial hK hL1 hF s2 (fun j _ _ => rfl), ?_, s4, fun d i k hd => ?_⟩
  · unfold f_X7_run f_X4_executeOn
    rw [q1, bd2_s, nm_s, if_pos rfl, if_neg n10, zc_0, bdq r1]
    refine (show bd2 (f_X4_executeOn_2 FU M2 1 (iZ 0)) _ = _ from by rw [show f_X4_executeOn_2 FU M2 1 (iZ 0) = _ from s1, bd2_s]).trans ?_
    rw [s3 13 0 (by unfold own; omega), h4]
  · rw [hF 13 0 (by unfold own; omega), mu_hit]
  · rw [hF d i (by unfold own; omega), w d i k (by omega), q2 d i k (by omega) (by omega) (by omega)]
theorem c_fail {p h : Int} {M : Mem} {A S T : Int → Int} {Bf : Int → Int → Int} {o c v m : Int} {cs : List (Nat × List Int)} (hK : Lk p h A S Bf o c v) (hL : Lc M A S Bf o c v) (hT : CT M m T) (he : PR (hx T m) m 11 0 [] = (none, cs)) (hG : Gk cs) (hm : Rm (p + cs.length) (h + 120 * cs.length + 120)) {i : Nat} (hi : (exR cs 0 A).1 = some i) (hil : i < cs.length) :
    ∃ M2, f_X7_run M = some (.inr 2, M2) ∧ cs.length ≤ 10 ∧ Lc M2 A S Bf o c v ∧ M2 0 0 10 = iZ i ∧ M2 13 0 1 = iZ 0 ∧ ∀ d i k, ¬ (d = 1 ∨ d = 2 ∨ d = 4 ∨ d = 5 ∨ d = 6 ∨ d = 8 ∨ d = 9 ∨ d = 10 ∨ d = 13 ∨ d = 15 ∨ d = 17 ∨ (d = 0 ∧ k = 10)) → M2 d i k = M d i k := by
  obtain ⟨M1, q1, q2, q3, q4, -, q6⟩ := c_mid hK hL hT he hG hm
  rw [hi] at q1
  refine ⟨mu M1 0 0 10 (iZ i), ?_, q2, q3.of (fun d l k hd => mu_miss _ _ (by omega)), mu_hit _ _ _ _ _, ?_, fun d l k hd => ?_⟩
  · rw [q1, if_neg (show ¬ (iZ cs.length ≤ iZ (exP cs.length (some i))) by rw [show exP cs.length (some i) = i from rfl, z_le (by omega) (by omega) (by omega) (by omega)]; omega), nm_s]
    rfl
  · rw [mu_miss _ _ (by omega)]; exact q4
  · rw [mu_miss _ _ (by omega), q6 d l k (by omega)]
theorem c_succ {p h p2 h2 : Int} {M : Mem} {A S T : Int → Int} {Bf : Int → Int → Int} {o c v m : Int} {cs : List (Nat × List Int)} (hK : Lk p h A S Bf o c v) (hL : Lc M A S Bf o c v) (hT : CT M m T) (he : PR (hx T m) m 11 0 [] = (none, cs)) (hG : Gk cs) (hm : Rm (p + cs.length) (h + 120 * cs.length + 120)) (hi : (exR cs 0 A).1 = none) (hO2 : Ok p2 h2 (exR cs 0 A).2) :
    ∃ M2, f_X7_run M = some (.inl (iZ cs.length), M2) ∧ cs.length ≤ 10 ∧ Lc M2 (exR cs 0 A).2 S (hB A Bf c) (o8 o c) (c8 c) v ∧ M2 13 0 1 = iZ 0 ∧ ∀ d i k, ¬ (d = 1 ∨ d = 2 ∨ d = 4 ∨ d = 5 ∨ d = 6 ∨ d = 8 ∨ d = 9 ∨ d = 10 ∨ d = 11 ∨ d = 13 ∨ d = 15 ∨ d = 17) → M2 d i k = M d i k := by
  obtain ⟨M1, q1, q2, q3, q4, q5, q6⟩ := c_mid hK hL hT he hG hm
  rw [hi] at q1
  obtain ⟨M2, M3, r1, r2, r3, r4⟩ := g_keepThen hK q3 hO2 (q5 hi)
  refine ⟨M3, ?_, q2, r3, ?_, fun d l k hd => ?_⟩
  · rw [q1, if_pos (show iZ cs.length ≤ iZ (exP cs.length none) by rw [show exP cs.length none = cs.length from rfl, z_le (by omega) (by omega) (by omega) (by omega)]; omega), bdq r1, bdq r2]
    rfl
  · rw [r4 13 0 (by omega)]; exact q4
  · rw [r4 d l (by omega), q6 d l k (by omega)]
