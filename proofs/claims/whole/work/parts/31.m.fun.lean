/-! The run. -/
theorem Gk.mem {cs : List (Nat × List Int)} (hG : Gk cs) : ∀ c, c ∈ cs → c.1 < 11 := fun c hc => by
  obtain ⟨i, hi, rfl⟩ := List.getElem_of_mem hc
  have h := (hG i hi).1
  rw [List.getD_eq_getElem?_getD, List.getElem?_eq_getElem hi, Option.getD_some] at h
  exact h
theorem Lx.run {M M2 : Mem} (hx : Lx M) (hF : ∀ d i k, d = 19 ∨ d = 29 ∨ d = 30 ∨ d = 31 ∨ d = 34 ∨ (d = 20 ∧ k = 15) → M2 d i k = M d i k) (h1 : M2 13 0 1 = iZ 0) (h2 : M2 20 0 11 = iZ 0) (h9 : M2 0 0 9 = M2 20 0 7) (h10 : M2 0 0 10 = M2 20 0 8) : Lx M2 := by
  obtain ⟨-, ⟨l, q, T, h3⟩, -, -, h4, h5⟩ := hx
  exact ⟨⟨0, T, by omega, by omega, h1, h2, fun j j0 j1 => by omega⟩, ⟨l, q, T, h3.of (fun d i k hd => hF d i k (by omega))⟩, h9, h10, by rw [← h4]; funext k; exact hF 30 0 k (by omega), by rw [← h5]; funext k; exact hF 31 0 k (by omega)⟩
theorem q_run {n : Int} {M : Mem} (n0 : 0 ≤ n) (n1 : n ≤ 512) (hR : Rl n M) : Gd n (f_L_run M) f_X8_run := by
  obtain ⟨A, S, Bf, o, c, v, hK, hL, hr, hX⟩ := hR
  obtain ⟨⟨m, T, b0, b1, b2, b3, b4⟩, hx2⟩ := id hX
  have hCT : CT M m T := ⟨b0, b1, b2, fun j j0 j1 => ⟨(b4 j j0 j1).1, (b4 j j0 j1).2.1, (b4 j j0 j1).2.2.1⟩⟩
  have hRB : RB M m T := ⟨b0, b1, b3, fun j j0 j1 => ⟨(b4 j j0 j1).1, (b4 j j0 j1).2.1, (b4 j j0 j1).2.2.2⟩, hx2.2.2.2.1, hx2.2.2.2.2⟩
  have x9 : M 0 0 9 = M 20 0 7 := hx2.2.1
  have x10 : M 0 0 10 = M 20 0 8 := hx2.2.2.1
  have c0 := hK.2.2.2.1
  have c1 := hK.2.2.2.2.1
  cases hP : (PR (hx T m) m 11 0 []).1 with
  | some e =>
    obtain ⟨M1, p1, p2, p3, p4⟩ := c_err hCT hP
    obtain ⟨M2, q1, q2, q3, q4, q5⟩ := r_err (M := M1) (A := A) (by funext k; rw [p4 21 0 k (by omega) (by omega) (by omega) (by omega), hr.1]) (hRB.of (fun d i k hd => p4 d i k (by omega) (by omega) (by omega) (by omega))) hP
    have w : ∀ d i k, d ≠ 13 → d ≠ 15 → d ≠ 17 → d ≠ 22 → d ≠ 32 → ¬ (d = 0 ∧ k = 9) → ¬ (d = 20 ∧ (k = 7 ∨ k = 9 ∨ k = 11 ∨ k = 19 ∨ k = 20 ∨ k = 21 ∨ k = 22)) → M2 d i k = M d i k := fun d i k a1 a2 a3 a4 a5 a6 a7 => (q5 d i k a4 a5 a7).trans (p4 d i k a1 a2 a3 a6)
    refine ⟨iZ 1, M1, iZ (-1), M2, ?_, q1, q2, fun hc => absurd hc (by decide), A, S, Bf, o, c, v, hK.mono (by omega) (by omega), hL.of (fun d i k hd => w d i k (by omega) (by omega) (by omega) (by omega) (by omega) (by omega) (by omega)), hr.of (fun d i k hd => w d i k (by omega) (by omega) (by omega) (by omega) (by omega) (by omega) (by omega)), hX.run (fun d i k hd => w d i k (by omega) (by omega) (by omega) (by omega) (by omega) (by omega) (by omega)) ?_ q4 ?_ ?_⟩
    · unfold f_L_run
      rw [p1, bxh_r]; rfl
    · rw [q5 13 0 1 (by omega) (by omega) (by omega)]; exact p3
    · rw [q5 0 0 9 (by omega) (by omega) (by omega), p2, q3]
    · rw [w 0 0 10 (by omega) (by omega) (by omega) (by omega) (by omega) (by omega) (by omega), w 20 0 8 (by omega) (by omega) (by omega) (by omega) (by omega) (by omega) (by omega)]; exact x10
  | none =>
    obtain ⟨cs, hcs⟩ : ∃ cs, PR (hx T m) m 11 0 [] = (none, cs) := ⟨(PR (hx T m) m 11 0 []).2, Prod.ext hP rfl⟩
    have hG : Gk cs := by
      obtain ⟨M3, -, -, -, h, -⟩ := (r_78 hRB).2 hP
      rw [hcs] at h; exact h
    have hl10 : cs.length ≤ 10 := by
      obtain ⟨M3, -, -, -, h⟩ := c_parse hCT
      have := (h hP).2.2
      rw [hcs] at this; exact this
    have hm : Rm (10 * n + cs.length) (1200 * n + 120 * cs.length + 120) := by unfold Rm; omega
    obtain ⟨hO2, hin⟩ := exR_in (p := 0) (h := 0) cs 0 A (10 * n) (1200 * n) hG.mem hK.1
    cases hi : (exR cs 0 A).1 with
    | some i =>
      obtain ⟨-, hil⟩ := hin i hi
      obtain ⟨M1, p1, -, p2, p3, p4, p5⟩ := c_fail hK hL hCT hcs hG hm hi (by omega)
      obtain ⟨M2, A2, q1, q2, q3, q4, q5, q6, q7⟩ := r_fail (M := M1) (A := A) (by funext k; rw [p5 21 0 k (by omega), hr.1]) (hRB.of (fun d i k hd => p5 d i k (by omega))) hcs hl10 hK.1 hm hi
      have w : ∀ d l k, ¬ (d = 1 ∨ d = 2 ∨ d = 4 ∨ d = 5 ∨ d = 6 ∨ d = 8 ∨ d = 9 ∨ d = 10 ∨ d = 13 ∨ d = 15 ∨ d = 17 ∨ (d = 0 ∧ k = 10)) → ¬ (d = 21 ∨ d = 22 ∨ d = 27 ∨ d = 32 ∨ (d = 20 ∧ (k = 8 ∨ k = 9 ∨ k = 11 ∨ k = 19 ∨ k = 20 ∨ k = 21 ∨ k = 22))) → M2 d l k = M d l k := fun d l k a1 a2 => (q7 d l k (by omega) (by omega) (by omega) (by omega) (by omega)).trans (p5 d l k a1)
      have hL2 : Lc M2 A S Bf o c v := p2.of (fun d l k hd => q7 d l k (by omega) (by omega) (by omega) (by omega) (by omega))
      obtain ⟨k1, k2⟩ := hK.mono (p2 := 10 * (n + 1)) (h2 := 1200 * (n + 1)) (by omega) (by omega)
      obtain ⟨r1, r2, ⟨B, r3, r3'⟩, r4, r5⟩ := hr
      refine ⟨iZ 2, M1, iZ (-1), M2, ?_, q1, q2, fun hc => absurd hc (by decide), A2, S, Bf, o, c, v, ⟨Ok_cg k1 q6, k2⟩, ⟨Cl_cg k1 q6 hL2.1, hL2.2⟩, ⟨q5, ?_, ⟨B, ?_, r3'⟩, ?_, ?_⟩, hX.run (fun d l k hd => w d l k (by omega) (by omega)) ?_ q4 ?_ ?_⟩
      · unfold f_L_run
        rw [p1, bxh_r]; rfl
      · funext k; rw [w 24 0 k (by omega) (by omega), r2]
      · funext k; rw [w 25 0 k (by omega) (by omega), r3]
      · rw [w 20 0 6 (by omega) (by omega)]; exact r4
      · rw [w 20 0 4 (by omega) (by omega)]; exact r5
      · rw [q7 13 0 1 (by omega) (by omega) (by omega) (by omega) (by omega)]; exact p4
      · rw [w 0 0 9 (by omega) (by omega), w 20 0 7 (by omega) (by omega)]; exact x9
      · rw [q7 0 0 10 (by omega) (by omega) (by omega) (by omega) (by omega), p3, q3]
    | none =>
      obtain ⟨M1, p1, -, p2, p3, p4⟩ := c_succ hK hL hCT hcs hG hm hi hO2
      have w0 : ∀ d l k, d ≠ 33 → mu M1 33 0 0 (iZ cs.length) d l k = M1 d l k := fun d l k a => mu_miss _ _ (by omega)
      obtain ⟨M2, q1, q2, q3, q4, q5⟩ := r_succ (M := mu M1 33 0 0 (iZ cs.length)) (hr.of (fun d l k hd => by rw [w0 d l k (by omega), p4 d l k (by omega)])) c0 c1 (hRB.of (fun d i k hd => by rw [w0 d i k (by omega), p4 d i k (by omega)])) hcs hl10 hK.1 hm hi
      have w : ∀ d l k, ¬ (d = 1 ∨ d = 2 ∨ d = 4 ∨ d = 5 ∨ d = 6 ∨ d = 8 ∨ d = 9 ∨ d = 10 ∨ d = 11 ∨ d = 13 ∨ d = 15 ∨ d = 17 ∨ d = 33) → ¬ (d = 21 ∨ d = 22 ∨ d = 25 ∨ d = 27 ∨ d = 32 ∨ (d = 20 ∧ (k = 6 ∨ k = 9 ∨ k = 11 ∨ k = 19 ∨ k = 20 ∨ k = 21 ∨ k = 22))) → M2 d l k = M d l k := fun d l k a1 a2 => ((q5 d l k (by omega) (by omega) (by omega) (by omega) (by omega) (by omega)).trans (w0 d l k (by omega))).trans (p4 d l k (by omega))
      refine ⟨iZ 0, mu M1 33 0 0 (iZ cs.length), iZ cs.length, M2, ?_, q1, q2, fun _ => ?_, (exR cs 0 A).2, S, hB A Bf c, o8 o c, c8 c, v, hK.hist (by omega) (by omega) (hO2.mono (by omega) (by omega)), p2.of (fun d l k hd => ?_), q3, hX.run (fun d l k hd => w d l k (by omega) (by omega)) ?_ q4 ?_ ?_⟩
      · unfold f_L_run
        rw [p1, bxh_l, nm_s]; rfl
      · rw [q5 33 0 0 (by omega) (by omega) (by omega) (by omega) (by omega) (by omega)]; exact mu_hit _ _ _ _ _
      · rw [q5 d l k (by omega) (by omega) (by omega) (by omega) (by omega) (by omega), w0 d l k (by omega)]
      · rw [q5 13 0 1 (by omega) (by omega) (by omega) (by omega) (by omega) (by omega), w0 13 0 1 (by omega)]; exact p3
      · rw [w 0 0 9 (by omega) (by omega), w 20 0 7 (by omega) (by omega)]; exact x9
      · rw [w 0 0 10 (by omega) (by omega), w 20 0 8 (by omega) (by omega)]; exact x10
