/-! The program's commands, carried out. -/
theorem cn_z (v : Int32) : iZ v.toInt = v := Int32.ofInt_toInt v
theorem cn_i (v : Int32) : i32 v.toInt := by
  have h1 := Int32.le_toInt v
  have h2 := Int32.toInt_lt v
  omega
def ag (args : List Int) (j : Nat) : Int := (iZ (args.getD j 0)).toInt
theorem nD_v : nD (cst 0) = 0 ∧ nD (cst 1) = 4 ∧ nD (cst 2) = 1 ∧ nD (cst 3) = 1 ∧ nD (cst 4) = 4 ∧ nD (cst 5) = 2 ∧ nD (cst 6) = 2 ∧ nD (cst 7) = 1 ∧ nD (cst 8) = 0 ∧ nD (cst 9) = 1 ∧ nD (cst 10) = 0 := by decide +kernel
/-- what a command doesn't use, doesn't count -/
theorem ign (A : Int → Int) {k : Nat} (hk : k < 11) (x y : Nat → Int) (h : ∀ j, j < nD (cst k) → x j = y j) : rfC A k (x 0) (x 1) (x 2) (x 3) = rfC A k (y 0) (y 1) (y 2) (y 3) ∧ dO A k (x 0) (x 1) (x 2) (x 3) = dO A k (y 0) (y 1) (y 2) (y 3) := by
  obtain ⟨n0, n1, n2, n3, n4, n5, n6, n7, n8, n9, n10⟩ := nD_v
  obtain rfl | rfl | rfl | rfl | rfl | rfl | rfl | rfl | rfl | rfl | rfl : k = 0 ∨ k = 1 ∨ k = 2 ∨ k = 3 ∨ k = 4 ∨ k = 5 ∨ k = 6 ∨ k = 7 ∨ k = 8 ∨ k = 9 ∨ k = 10 := by omega
  · exact ⟨by rw [show (((0 : Nat) : Int)) = 0 from rfl, rf_0, rf_0], by rw [show (((0 : Nat) : Int)) = 0 from rfl, dO_0, dO_0]⟩
  · rw [h 0 (by omega), h 1 (by omega), h 2 (by omega), h 3 (by omega)]; exact ⟨rfl, rfl⟩
  · rw [h 0 (by omega), show (((2 : Nat) : Int)) = 2 from rfl]; exact ⟨by rw [rf_2, rf_2], by rw [dO_2, dO_2]⟩
  · rw [h 0 (by omega), show (((3 : Nat) : Int)) = 3 from rfl]; exact ⟨by rw [rf_3, rf_3], by rw [dO_3, dO_3]⟩
  · rw [h 0 (by omega), h 1 (by omega), h 2 (by omega), h 3 (by omega)]; exact ⟨rfl, rfl⟩
  · rw [h 0 (by omega), h 1 (by omega), show (((5 : Nat) : Int)) = 5 from rfl]; exact ⟨by rw [rf_5, rf_5], by rw [dO_5, dO_5]⟩
  · rw [h 0 (by omega), h 1 (by omega), show (((6 : Nat) : Int)) = 6 from rfl]; exact ⟨by rw [rf_6, rf_6], by rw [dO_6, dO_6]⟩
  · rw [h 0 (by omega), show (((7 : Nat) : Int)) = 7 from rfl]; exact ⟨by rw [rf_7, rf_7], by rw [dO_7, dO_7]⟩
  · exact ⟨by rw [show (((8 : Nat) : Int)) = 8 from rfl, rf_8, rf_8], by rw [show (((8 : Nat) : Int)) = 8 from rfl, dO_8, dO_8]⟩
  · rw [h 0 (by omega), show (((9 : Nat) : Int)) = 9 from rfl]; exact ⟨by rw [rf_9, rf_9], by rw [dO_9, dO_9]⟩
  · exact ⟨by rw [show (((10 : Nat) : Int)) = 10 from rfl, rf_10, rf_10], by rw [show (((10 : Nat) : Int)) = 10 from rfl, dO_10, dO_10]⟩
/-- a command refuses, does -/
noncomputable def rfK (A : Int → Int) (c : Nat × List Int) : Int := rfC A c.1 (ag c.2 0) (ag c.2 1) (ag c.2 2) (ag c.2 3)
noncomputable def dOK (A : Int → Int) (c : Nat × List Int) : (Int → Int) × Int := dO A c.1 (ag c.2 0) (ag c.2 1) (ag c.2 2) (ag c.2 3)
noncomputable def exR : List (Nat × List Int) → Nat → (Int → Int) → Option Nat × (Int → Int)
  | [], _, A => (none, A)
  | c :: L, i, A => if rfK A c = 0 then exR L (i + 1) (dOK A c).1 else (some i, A)
def exP (n : Nat) : Option Nat → Nat
  | none => n
  | some i => i
theorem Ok_dOK {p h : Int} {A : Int → Int} (hO : Ok p h A) {c : Nat × List Int} (hk : c.1 < 11) (hf : rfK A c = 0) : Ok (p + 1) (h + 120) (dOK A c).1 := Ok_dO hO (by omega) (by omega) hf
theorem exR_in {p h : Int} : ∀ (L : List (Nat × List Int)) (i : Nat) (A : Int → Int) (p h : Int), (∀ c, c ∈ L → c.1 < 11) → Ok p h A → Ok (p + L.length) (h + 120 * L.length) (exR L i A).2 ∧ ∀ j, (exR L i A).1 = some j → i ≤ j ∧ j < i + L.length := by
  intro L
  induction L with
  | nil =>
    intro i A p h hL hO
    exact ⟨hO.mono (by show p ≤ p + ((0 : Nat) : Int); omega) (by show h ≤ h + 120 * ((0 : Nat) : Int); omega), fun j hj => by cases hj⟩
  | cons c L ih =>
    intro i A p h hL hO
    rw [List.length_cons]
    unfold exR
    by_cases hf : rfK A c = 0
    · rw [if_pos hf]
      obtain ⟨h1, h2⟩ := ih (i + 1) (dOK A c).1 (p + 1) (h + 120) (fun d hd => hL d (List.mem_cons_of_mem _ hd)) (Ok_dOK hO (hL c List.mem_cons_self) hf)
      exact ⟨h1.mono (by omega) (by omega), fun j hj => by have := h2 j hj; omega⟩
    · rw [if_neg hf]
      refine ⟨hO.mono (by omega) (by omega), fun j hj => ?_⟩
      obtain rfl := Option.some.inj hj
      omega
/-- the class -/
theorem g_exec {cs : List (Nat × List Int)} (hl10 : cs.length ≤ 10) (hG : Gk cs) : ∀ (L : List (Nat × List Int)) (c f : Nat) (M : Mem) (A : Int → Int) (p h : Int), cs.drop c = L → c + L.length = cs.length → L.length < f → M 13 0 4 = iZ cs.length → HC M cs → Cl M 1 A → Rw M 1 → Ok p h A → Rm (p + L.length) (h + 120 * L.length + 120) →
    ∃ M2, f_X4_executeOn_2 f M 1 (iZ c) = some (iZ (exP cs.length (exR L c A).1), M2) ∧ Rw M2 1 ∧ FS 1 M M2 ∧ ((exR L c A).1 = none → Cl M2 1 (exR L c A).2) := by
  intro L
  induction L with
  | nil =>
    intro c f M A p h hd hl hf h4 hC hCl hR hO hm
    obtain ⟨f, rfl⟩ : ∃ g, f = g + 1 := ⟨f - 1, by omega⟩
    have hl : c = cs.length := hl
    refine ⟨M, ?_, hR, FS.refl 1 M, fun _ => hCl⟩
    show (if (M 13 0 4) ≤ iZ c then _ else _) = _
    rw [h4, if_pos (show iZ cs.length ≤ iZ c by rw [z_le (by omega) (by omega) (by omega) (by omega)]; omega)]
    rfl
  | cons cmd L ih =>
    intro c f M A p h hd hl hf h4 hC hCl hR hO hm
    obtain ⟨f, rfl⟩ : ∃ g, f = g + 1 := ⟨f - 1, by omega⟩
    rw [List.length_cons] at hl hf hm
    have hcm : cs.getD c (0, []) = cmd := by
      have := congrArg (fun l => l.getD 0 (0, [])) hd
      simpa [List.getD_eq_getElem?_getD] using this
    have hd2 : cs.drop (c + 1) = L := by rw [← List.tail_drop, hd]; rfl
    obtain ⟨hk, hal⟩ := hG c (by omega)
    obtain ⟨g1, g2⟩ := hC c (by omega)
    rw [hcm] at hk hal g1 g2
    have hig := ign A hk (fun j => (M 17 c j).toInt) (ag cmd.2) (fun j hj => by
      show (M 17 c j).toInt = (iZ (cmd.2.getD j 0)).toInt
      rw [g2 j (by omega)])
    have hm0 : Rm p (h + 120) := by unfold Rm at *; omega
    have hrf := g_refusalOf hO hm0.lo (s := 1) (by omega) hR hCl (k := cmd.1) (a := (M 17 c 0).toInt) (b := (M 17 c 1).toInt) (c := (M 17 c 2).toInt) (d := (M 17 c 3).toInt) (by omega) (by omega) (cn_i _) (cn_i _) (cn_i _) (cn_i _)
    rw [cn_z, cn_z, cn_z, cn_z, ← g1, hig.1] at hrf
    have hrf : f_X5_refusalOf M 1 (M 15 0 c) (M 17 c 0) (M 17 c 1) (M 17 c 2) (M 17 c 3) = some (iZ (rfK A cmd)) := hrf
    have hr4 : 0 ≤ rfK A cmd ∧ rfK A cmd ≤ 4 := rfC_in _ _ _ _ _ _
    have hstart : f_X4_executeOn_2 (f + 1) M 1 (iZ c) = (if iZ (rfK A cmd) = 0 then bd2 (f_X5_carryOut M 1 (M 15 0 c) (M 17 c 0) (M 17 c 1) (M 17 c 2) (M 17 c 3)) fun r14 M13 => f_X4_executeOn_2 f M13 1 (iZ c + (1 : Int32)) else some (iZ c, M)) := by
      show (if (M 13 0 4) ≤ iZ c then _ else _) = _
      rw [h4, if_neg (show ¬ (iZ cs.length ≤ iZ c) by rw [z_le (by omega) (by omega) (by omega) (by omega)]; omega), if_pos (of_eq_true (z_vin (by omega) (by omega) (by omega))), z_ix (by omega) (by omega), Int.toNat_natCast, bdq hrf]
    rw [hstart]
    unfold exR
    by_cases hz : rfK A cmd = 0
    · have hz2 : rfC A cmd.1 (M 17 c 0).toInt (M 17 c 1).toInt (M 17 c 2).toInt (M 17 c 3).toInt = 0 := by rw [hig.1]; exact hz
      obtain ⟨M1, q1, q2, q3, q4⟩ := g_carryOut hO hm0 (s := 1) (by omega) hR hCl (k := cmd.1) (by omega) (by omega) (cn_i _) (cn_i _) hz2
      rw [cn_z, cn_z, cn_z, cn_z, ← g1, hig.2] at q1
      rw [hig.2] at q2
      rw [if_pos hz, if_pos (by rw [hz]; decide), q1, bd2_s, zc_1, z_add]
      have hC1 : HC M1 cs := fun d hd => by
        rw [q4 15 0 (by unfold own; omega), q4 17 d (by unfold own; omega)]
        exact hC d hd
      obtain ⟨M2, s1, s2, s3, s4⟩ := ih (c + 1) f M1 (dOK A cmd).1 (p + 1) (h + 120) hd2 (by omega) (by omega) (by rw [q4 13 0 (by unfold own; omega)]; exact h4) hC1 q2 q3 (Ok_dOK hO hk hz) (by unfold Rm at *; omega)
      exact ⟨M2, s1, s2, q4.tr s3, s4⟩
    · rw [if_neg hz, if_neg (by rw [zc_0]; exact ne_z (by omega) (by omega) hz)]
      exact ⟨M, rfl, hR, FS.refl 1 M, fun hc => by cases hc⟩
/-- the reference -/
theorem g_does {p h : Int} {A : Int → Int} (hO : Ok p h A) (hm : Rm p (h + 120)) {M : Mem} (hA : M 21 0 = rz A) {cmd : Nat × List Int} (hk : cmd.1 < 11) (hal : cmd.2.length = nD (cst cmd.1)) {c : Nat} (hc : c ≤ 10) (hH : Hc1 M cmd.1 cmd.2 (5 * c)) :
    (rfK A cmd = 0 → ∃ M2, f_X8_does M (iZ (5 * c)) = some M2 ∧ M2 21 0 = rz (dOK A cmd).1 ∧ ∀ d i l, d ≠ 21 → d ≠ 27 → M2 d i l = M d i l) ∧ (rfK A cmd ≠ 0 → ∃ t, 1 ≤ t ∧ t ≤ 9 ∧ f_X8_does M (iZ (5 * c)) = some (mT M t)) := by
  have x0 : ix (iZ (5 * (c : Int))) = 5 * c := by rw [z_ix (by omega) (by omega)]; omega
  have hx : ∀ j : Nat, j ≤ 4 → ix (iZ (5 * (c : Int) + j)) = 5 * c + j := fun j hj => by rw [z_ix (by omega) (by omega)]; omega
  have hv : ∀ j : Nat, j ≤ 4 → vin (iZ (5 * (c : Int) + j)) 305 := fun j hj => of_eq_true (z_vin (by omega) (by omega) (by omega))
  -- the call by its word
  have hdo : f_X8_does M (iZ (5 * c)) = (if (M 32 0 (5 * c)) = (0 : Int32) then bd2 (f_X8_placeIt M) fun r52 M51 => some M51 else (if (M 32 0 (5 * c)) = (1 : Int32) then bd2 (f_X8_linkIt M (M 32 0 (5 * c + 1)) (M 32 0 (5 * c + 2)) (M 32 0 (5 * c + 3)) (M 32 0 (5 * c + 4))) fun r56 M55 => some M55 else (if (M 32 0 (5 * c)) = (2 : Int32) then bd2 (f_X8_blockIt M (M 32 0 (5 * c + 1)) (1 : Int32)) fun r60 M59 => some M59 else (if (M 32 0 (5 * c)) = (3 : Int32) then bd2 (f_X8_blockIt M (M 32 0 (5 * c + 1)) (0 : Int32)) fun r64 M63 => some M63 else (if (M 32 0 (5 * c)) = (4 : Int32) then bd2 (f_X8_postIt M (M 32 0 (5 * c + 1)) (M 32 0 (5 * c + 2)) (M 32 0 (5 * c + 3)) (M 32 0 (5 * c + 4))) fun r68 M67 => some M67 else (if (M 32 0 (5 * c)) = (5 : Int32) then bd2 (f_X8_sendIt M (M 32 0 (5 * c + 1)) (M 32 0 (5 * c + 2))) fun r72 M71 => some M71 else (if (M 32 0 (5 * c)) = (6 : Int32) then bd2 (f_X8_stampIt M (M 32 0 (5 * c + 1)) (M 32 0 (5 * c + 2))) fun r76 M75 => some M75 else (if (M 32 0 (5 * c)) = (7 : Int32) then bd2 (f_X8_takeIt M (M 32 0 (5 * c + 1))) fun r80 M79 => some M79 else (if (M 32 0 (5 * c)) = (8 : Int32) then bd2 (f_X8_dispatchIt M) fun r84 M83 => some M83 else bd2 (f_X8_passIt M (M 32 0 (5 * c + 1))) fun r88 M87 => some M87))))))))) := by
    unfold f_X8_does
    have h1 := hv 1 (by omega); have h2 := hv 2 (by omega); have h3 := hv 3 (by omega); have h4 := hv 4 (by omega)
    have y1 := hx 1 (by omega); have y2 := hx 2 (by omega); have y3 := hx 3 (by omega); have y4 := hx 4 (by omega)
    have h0 : vin (iZ (5 * (c : Int))) 305 := of_eq_true (z_vin (by omega) (by omega) (by omega))
    have a1 : iZ (5 * (c : Int)) + (1 : Int32) = iZ (5 * (c : Int) + ((1 : Nat) : Int)) := by rw [zc_1, z_add]; rfl
    have a2 : iZ (5 * (c : Int)) + (2 : Int32) = iZ (5 * (c : Int) + ((2 : Nat) : Int)) := by rw [zc_2, z_add]; rfl
    have a3 : iZ (5 * (c : Int)) + (3 : Int32) = iZ (5 * (c : Int) + ((3 : Nat) : Int)) := by rw [zc_3, z_add]; rfl
    have a4 : iZ (5 * (c : Int)) + (4 : Int32) = iZ (5 * (c : Int) + ((4 : Nat) : Int)) := by rw [zc_4, z_add]; rfl
    rw [a1, a2, a3, a4, if_pos h1, if_pos h2, if_pos h3, if_pos h4, if_pos h0, x0, y1, y2, y3, y4]
  -- from a call's spec
  have key : ∀ (k : Nat) (b0 b1 b2 b3 : Int) (It : Mem → Option (Int32 × Mem)) (tc : Int → Int), rfC A k b0 b1 b2 b3 = rfK A cmd → (dO A k b0 b1 b2 b3).1 = (dOK A cmd).1 → ItS A k b0 b1 b2 b3 It tc → (∀ r, 1 ≤ r → r ≤ 4 → 1 ≤ tc r ∧ tc r ≤ 9) → f_X8_does M (iZ (5 * c)) = (bd2 (It M) fun r M1 => some M1) → (rfK A cmd = 0 → ∃ M2, f_X8_does M (iZ (5 * c)) = some M2 ∧ M2 21 0 = rz (dOK A cmd).1 ∧ ∀ d i l, d ≠ 21 → d ≠ 27 → M2 d i l = M d i l) ∧ (rfK A cmd ≠ 0 → ∃ t, 1 ≤ t ∧ t ≤ 9 ∧ f_X8_does M (iZ (5 * c)) = some (mT M t)) := fun k b0 b1 b2 b3 It tc e1 e2 hI ht hdoes => by
    rw [hdoes]
    refine ⟨fun hz => ?_, fun hz => ?_⟩
    · obtain ⟨M2, q1, q2, q3⟩ := hI.1 (by rw [e1]; exact hz) M hA
      exact ⟨M2, by rw [q1, bd2_s], by rw [← e2]; exact q2, q3⟩
    · have q1 := hI.2 (by rw [e1]; exact hz) M hA
      have hr4 := rfC_in A k b0 b1 b2 b3
      have h3 := ht (rfC A k b0 b1 b2 b3) (by rw [e1] at hr4 ⊢; omega) hr4.2
      exact ⟨_, h3.1, h3.2, by rw [q1, bd2_s]⟩
  unfold Hc1 at hH
  have hxs : ∀ j, j < nD (cst cmd.1) → cmd.1 ≠ 10 → (M 32 0 (5 * c + 1 + j)).toInt = ag cmd.2 j := fun j hj hne => by
    rw [if_neg hne] at hH
    rw [hH.2 j (by omega)]; rfl
  by_cases e10 : cmd.1 = 10
  · rw [if_pos e10] at hH
    rw [hH.1, hH.2] at hdo
    simp only [show ¬ (iZ 9 = (0 : Int32)) by decide, show ¬ (iZ 9 = (1 : Int32)) by decide, show ¬ (iZ 9 = (2 : Int32)) by decide, show ¬ (iZ 9 = (3 : Int32)) by decide, show ¬ (iZ 9 = (4 : Int32)) by decide, show ¬ (iZ 9 = (5 : Int32)) by decide, show ¬ (iZ 9 = (6 : Int32)) by decide, show ¬ (iZ 9 = (7 : Int32)) by decide, show ¬ (iZ 9 = (8 : Int32)) by decide, ↓reduceIte] at hdo
    refine key 9 1 0 0 0 (fun M => f_X8_passIt M (iZ 1)) (fun _ => 1) ?_ ?_ (it_9 hO hm (by omega)) (fun r _ _ => by show 1 ≤ (1 : Int) ∧ (1 : Int) ≤ 9; omega) hdo
    · unfold rfK
      rw [e10, show (((9 : Nat) : Int)) = 9 from rfl, show (((10 : Nat) : Int)) = 10 from rfl, rf_9, rf_10, if_pos (by omega)]
    · unfold dOK
      rw [e10, show (((9 : Nat) : Int)) = 9 from rfl, show (((10 : Nat) : Int)) = 10 from rfl, dO_9, dO_10]
      rfl
  · have hig := ign A hk (fun j => (M 32 0 (5 * c + 1 + j)).toInt) (ag cmd.2) (fun j hj => hxs j hj e10)
    rw [if_neg e10] at hH
    have e1 : rfC A cmd.1 (M 32 0 (5 * c + 1)).toInt (M 32 0 (5 * c + 2)).toInt (M 32 0 (5 * c + 3)).toInt (M 32 0 (5 * c + 4)).toInt = rfK A cmd := hig.1
    have e2 : (dO A cmd.1 (M 32 0 (5 * c + 1)).toInt (M 32 0 (5 * c + 2)).toInt (M 32 0 (5 * c + 3)).toInt (M 32 0 (5 * c + 4)).toInt).1 = (dOK A cmd).1 := congrArg Prod.fst hig.2
    have hI := fun tc It (h : ItS A cmd.1 (M 32 0 (5 * c + 1)).toInt (M 32 0 (5 * c + 2)).toInt (M 32 0 (5 * c + 3)).toInt (M 32 0 (5 * c + 4)).toInt It tc) => key cmd.1 _ _ _ _ It tc e1 e2 h
    have c1 := cn_i (M 32 0 (5 * c + 1)); have c2 := cn_i (M 32 0 (5 * c + 2)); have c3 := cn_i (M 32 0 (5 * c + 3)); have c4 := cn_i (M 32 0 (5 * c + 4))
    have z1 := cn_z (M 32 0 (5 * c + 1)); have z2 := cn_z (M 32 0 (5 * c + 2)); have z3 := cn_z (M 32 0 (5 * c + 3)); have z4 := cn_z (M 32 0 (5 * c + 4))
    have hw := hH.1
    clear key hig hxs e1 e2 hH
    obtain ⟨k, args⟩ := cmd
    simp only at hk hw hI e10 ⊢
    rw [hw] at hdo
    obtain rfl | rfl | rfl | rfl | rfl | rfl | rfl | rfl | rfl | rfl : k = 0 ∨ k = 1 ∨ k = 2 ∨ k = 3 ∨ k = 4 ∨ k = 5 ∨ k = 6 ∨ k = 7 ∨ k = 8 ∨ k = 9 := by omega
    · exact hI _ _ (it_0 hO _ _ _ _) (fun r _ _ => by show 1 ≤ (1 : Int) ∧ (1 : Int) ≤ 9; omega) (by rw [hdo, if_pos (by decide)])
    · refine hI _ _ (it_1 hO c1 c2 c3 c4) (fun r r1 r4 => by show 1 ≤ r ∧ r ≤ 9; omega) ?_
      rw [hdo, if_neg (by decide), if_pos (by decide), z1, z2, z3, z4]
    · refine hI _ _ (it_bl hO hm.lo c1 (v := 1) (.inl ⟨rfl, rfl⟩)) (fun r r1 r4 => by show 1 ≤ (if r = 1 then (1 : Int) else 2) ∧ (if r = 1 then (1 : Int) else 2) ≤ 9; split <;> omega) ?_
      rw [hdo, if_neg (by decide), if_neg (by decide), if_pos (by decide), z1]; rfl
    · refine hI _ _ (it_bl hO hm.lo c1 (v := 0) (.inr ⟨rfl, rfl⟩)) (fun r r1 r4 => by show 1 ≤ (if r = 1 then (1 : Int) else 2) ∧ (if r = 1 then (1 : Int) else 2) ≤ 9; split <;> omega) ?_
      rw [hdo, if_neg (by decide), if_neg (by decide), if_neg (by decide), if_pos (by decide), z1]; rfl
    · refine hI _ _ (it_4 hO c1 c2 c3 c4) (fun r r1 r4 => by show 1 ≤ r ∧ r ≤ 9; omega) ?_
      rw [hdo, if_neg (by decide), if_neg (by decide), if_neg (by decide), if_neg (by decide), if_pos (by decide), z1, z2, z3, z4]
    · refine hI _ _ (it_5 hO hm.lo c1 c2) (fun r r1 r4 => by show 1 ≤ (if r = 4 then (1 : Int) else if r = 1 then 2 else 3) ∧ (if r = 4 then (1 : Int) else if r = 1 then 2 else 3) ≤ 9; split <;> (try split) <;> omega) ?_
      rw [hdo, if_neg (by decide), if_neg (by decide), if_neg (by decide), if_neg (by decide), if_neg (by decide), if_pos (by decide), z1, z2]
    · refine hI _ _ (it_6 hO hm.lo c1 c2) (fun r r1 r4 => by show 1 ≤ (if r = 4 then (1 : Int) else r) ∧ (if r = 4 then (1 : Int) else r) ≤ 9; split <;> omega) ?_
      rw [hdo, if_neg (by decide), if_neg (by decide), if_neg (by decide), if_neg (by decide), if_neg (by decide), if_neg (by decide), if_pos (by decide), z1, z2]
    · refine hI _ _ (it_7 hO hm.lo c1) (fun r r1 r4 => by show 1 ≤ (if r = 4 then (1 : Int) else 2) ∧ (if r = 4 then (1 : Int) else 2) ≤ 9; split <;> omega) ?_
      rw [hdo, if_neg (by decide), if_neg (by decide), if_neg (by decide), if_neg (by decide), if_neg (by decide), if_neg (by decide), if_neg (by decide), if_pos (by decide), z1]
    · refine hI _ _ (it_8 hO hm.lo _ _ _ _ (fun _ => 1)) (fun r _ _ => by show 1 ≤ (1 : Int) ∧ (1 : Int) ≤ 9; omega) ?_
      rw [hdo, if_neg (by decide), if_neg (by decide), if_neg (by decide), if_neg (by decide), if_neg (by decide), if_neg (by decide), if_neg (by decide), if_neg (by decide), if_pos (by decide)]
    · refine hI _ _ (it_9 hO hm c1) (fun r _ _ => by show 1 ≤ (1 : Int) ∧ (1 : Int) ≤ 9; omega) ?_
      rw [hdo, if_neg (by decide), if_neg (by decide), if_neg (by decide), if_neg (by decide), if_neg (by decide), if_neg (by decide), if_neg (by decide), if_neg (by decide), if_neg (by decide), z1]
