/-! the world that the constructors leave, as a memory -/
def svc0 (i : Nat) : Nat := if i = 0 then 5 else if i = 1 then 41 else if i = 2 then 77 else 115 + 36 * (i - 3)
/-- the place of an instance among the cells made -/
def plc (a i : Nat) : Nat := match a with
  | 0 => 0
  | 1 => svc0 i
  | 2 => svc0 i + 1
  | 3 => svc0 i + 2
  | 4 => svc0 (i / 20) + 3 + i % 20
  | 5 => svc0 i + 23
  | 6 => svc0 (i / 12) + 24 + i % 12
  | 7 => 1
  | 8 => 2
  | 9 => 3
  | 10 => 4
  | 11 => 113
  | 12 => 114
  | 13 => 403
  | 14 => 404
  | 15 => 405
  | 16 => 406
  | 17 => 407 + i
  | 18 => 417
  | 19 => 418
  | 34 => 419
  | 33 => 433
  | 36 => 434
  | a => 400 + a
def M0 : Mem := fun a i k => match a with
  | 0 => if k = 9 ∨ k = 10 then -1 else 0
  | 5 => nI (12 * i + k)
  | 20 => if k = 7 ∨ k = 8 then -1 else 0
  | 30 => letF k
  | 31 => begF k
  | 34 => if k = 100000 then 16 else 0
  | _ => 0
/-- the cells made, in their order -/
def S9 (Y : LY) : Nat → SE := fun k => if k < 420 then x7B Y k else if k < 433 then modB Y 420 (k - 420) else if k = 433 then .inr (.inl (.inl (YC Y 8, 1, .inr (.inl (fun _ => 0))))) else .inr (.inl (.inl (YC Y 9, 1, .inr (.inr (.inr (.inl (fun _ => 0)))))))
/-- which instance lies at a place -/
def invL : List (Nat × Nat) := [(0, 0), (7, 0), (8, 0), (9, 0), (10, 0), (1, 0), (2, 0), (3, 0), (4, 0), (4, 1), (4, 2), (4, 3), (4, 4), (4, 5), (4, 6), (4, 7), (4, 8), (4, 9), (4, 10), (4, 11), (4, 12), (4, 13), (4, 14), (4, 15), (4, 16), (4, 17), (4, 18), (4, 19), (5, 0), (6, 0), (6, 1), (6, 2), (6, 3), (6, 4), (6, 5), (6, 6), (6, 7), (6, 8), (6, 9), (6, 10), (6, 11), (1, 1), (2, 1), (3, 1), (4, 20), (4, 21), (4, 22), (4, 23), (4, 24), (4, 25), (4, 26), (4, 27), (4, 28), (4, 29), (4, 30), (4, 31), (4, 32), (4, 33), (4, 34), (4, 35), (4, 36), (4, 37), (4, 38), (4, 39), (5, 1), (6, 12), (6, 13), (6, 14), (6, 15), (6, 16), (6, 17), (6, 18), (6, 19), (6, 20), (6, 21), (6, 22), (6, 23), (1, 2), (2, 2), (3, 2), (4, 40), (4, 41), (4, 42), (4, 43), (4, 44), (4, 45), (4, 46), (4, 47), (4, 48), (4, 49), (4, 50), (4, 51), (4, 52), (4, 53), (4, 54), (4, 55), (4, 56), (4, 57), (4, 58), (4, 59), (5, 2), (6, 24), (6, 25), (6, 26), (6, 27), (6, 28), (6, 29), (6, 30), (6, 31), (6, 32), (6, 33), (6, 34), (6, 35), (11, 0), (12, 0), (1, 3), (2, 3), (3, 3), (4, 60), (4, 61), (4, 62), (4, 63), (4, 64), (4, 65), (4, 66), (4, 67), (4, 68), (4, 69), (4, 70), (4, 71), (4, 72), (4, 73), (4, 74), (4, 75), (4, 76), (4, 77), (4, 78), (4, 79), (5, 3), (6, 36), (6, 37), (6, 38), (6, 39), (6, 40), (6, 41), (6, 42), (6, 43), (6, 44), (6, 45), (6, 46), (6, 47), (1, 4), (2, 4), (3, 4), (4, 80), (4, 81), (4, 82), (4, 83), (4, 84), (4, 85), (4, 86), (4, 87), (4, 88), (4, 89), (4, 90), (4, 91), (4, 92), (4, 93), (4, 94), (4, 95), (4, 96), (4, 97), (4, 98), (4, 99), (5, 4), (6, 48), (6, 49), (6, 50), (6, 51), (6, 52), (6, 53), (6, 54), (6, 55), (6, 56), (6, 57), (6, 58), (6, 59), (1, 5), (2, 5), (3, 5), (4, 100), (4, 101), (4, 102), (4, 103), (4, 104), (4, 105), (4, 106), (4, 107), (4, 108), (4, 109), (4, 110), (4, 111), (4, 112), (4, 113), (4, 114), (4, 115), (4, 116), (4, 117), (4, 118), (4, 119), (5, 5), (6, 60), (6, 61), (6, 62), (6, 63), (6, 64), (6, 65), (6, 66), (6, 67), (6, 68), (6, 69), (6, 70), (6, 71), (1, 6), (2, 6), (3, 6), (4, 120), (4, 121), (4, 122), (4, 123), (4, 124), (4, 125), (4, 126), (4, 127), (4, 128), (4, 129), (4, 130), (4, 131), (4, 132), (4, 133), (4, 134), (4, 135), (4, 136), (4, 137), (4, 138), (4, 139), (5, 6), (6, 72), (6, 73), (6, 74), (6, 75), (6, 76), (6, 77), (6, 78), (6, 79), (6, 80), (6, 81), (6, 82), (6, 83), (1, 7), (2, 7), (3, 7), (4, 140), (4, 141), (4, 142), (4, 143), (4, 144), (4, 145), (4, 146), (4, 147), (4, 148), (4, 149), (4, 150), (4, 151), (4, 152), (4, 153), (4, 154), (4, 155), (4, 156), (4, 157), (4, 158), (4, 159), (5, 7), (6, 84), (6, 85), (6, 86), (6, 87), (6, 88), (6, 89), (6, 90), (6, 91), (6, 92), (6, 93), (6, 94), (6, 95), (1, 8), (2, 8), (3, 8), (4, 160), (4, 161), (4, 162), (4, 163), (4, 164), (4, 165), (4, 166), (4, 167), (4, 168), (4, 169), (4, 170), (4, 171), (4, 172), (4, 173), (4, 174), (4, 175), (4, 176), (4, 177), (4, 178), (4, 179), (5, 8), (6, 96), (6, 97), (6, 98), (6, 99), (6, 100), (6, 101), (6, 102), (6, 103), (6, 104), (6, 105), (6, 106), (6, 107), (1, 9), (2, 9), (3, 9), (4, 180), (4, 181), (4, 182), (4, 183), (4, 184), (4, 185), (4, 186), (4, 187), (4, 188), (4, 189), (4, 190), (4, 191), (4, 192), (4, 193), (4, 194), (4, 195), (4, 196), (4, 197), (4, 198), (4, 199), (5, 9), (6, 108), (6, 109), (6, 110), (6, 111), (6, 112), (6, 113), (6, 114), (6, 115), (6, 116), (6, 117), (6, 118), (6, 119), (1, 10), (2, 10), (3, 10), (4, 200), (4, 201), (4, 202), (4, 203), (4, 204), (4, 205), (4, 206), (4, 207), (4, 208), (4, 209), (4, 210), (4, 211), (4, 212), (4, 213), (4, 214), (4, 215), (4, 216), (4, 217), (4, 218), (4, 219), (5, 10), (6, 120), (6, 121), (6, 122), (6, 123), (6, 124), (6, 125), (6, 126), (6, 127), (6, 128), (6, 129), (6, 130), (6, 131), (13, 0), (14, 0), (15, 0), (16, 0), (17, 0), (17, 1), (17, 2), (17, 3), (17, 4), (17, 5), (17, 6), (17, 7), (17, 8), (17, 9), (18, 0), (19, 0), (34, 0), (20, 0), (21, 0), (22, 0), (23, 0), (24, 0), (25, 0), (26, 0), (27, 0), (28, 0), (29, 0), (30, 0), (31, 0), (32, 0), (33, 0), (36, 0)]
theorem plc_inv : ∀ a, a < 37 → ∀ i, i < nF a → plc a i < 435 ∧ invL[plc a i]? = some (a, i) := by decide +kernel
theorem inv_plc : ∀ k, k < 435 → (invL.getD k (0, 0)).1 < 37 ∧ (invL.getD k (0, 0)).2 < nF (invL.getD k (0, 0)).1 ∧ plc (invL.getD k (0, 0)).1 (invL.getD k (0, 0)).2 = k := by decide +kernel
theorem nF_lt {a i : Nat} (h : i < nF a) : a < 37 := by
  by_cases h1 : a < 37
  · exact h1
  · exfalso
    unfold nF at h
    split at h <;> first | omega | (rw [if_neg h1] at h; omega)
theorem plc_inj {a i b j : Nat} (hi : i < nF a) (hj : j < nF b) (e : plc a i = plc b j) : a = b ∧ i = j := by
  have h1 := (plc_inv a (nF_lt hi) i hi).2
  have h2 := (plc_inv b (nF_lt hj) j hj).2
  rw [e] at h1
  have h3 := Option.some.inj (h1.symm.trans h2)
  exact ⟨congrArg Prod.fst h3, congrArg Prod.snd h3⟩
theorem svc9 (Y : LY) : ∀ i, i < 11 → ∀ f, f < 36 → S9 Y (svc0 i + f) = svcB Y 1 (svc0 i) f := by
  intro i hi f hf
  unfold S9 svc0
  by_cases h0 : i = 0
  · subst h0
    rw [if_pos rfl, if_pos (by omega)]
    unfold x7B x7T
    rw [if_neg (by omega), if_neg (by omega), if_pos (by omega), show 5 + f - 5 = f by omega]
  · rw [if_neg h0]
    by_cases h1 : i = 1
    · subst h1
      rw [if_pos rfl, if_pos (by omega)]
      unfold x7B x7T
      rw [if_neg (by omega), if_neg (by omega), if_neg (by omega), if_pos (by omega), show 41 + f - 41 = f by omega]
    · rw [if_neg h1]
      by_cases h2 : i = 2
      · subst h2
        rw [if_pos rfl, if_pos (by omega)]
        unfold x7B x7T
        rw [if_neg (by omega), if_neg (by omega), if_neg (by omega), if_neg (by omega), if_pos (by omega), show 77 + f - 77 = f by omega]
      · rw [if_neg h2, if_pos (by omega)]
        unfold x7B x7T
        rw [if_neg (by omega), if_neg (by omega), if_neg (by omega), if_neg (by omega), if_neg (by omega), if_pos (by omega)]
        unfold hisB hisT
        rw [if_neg (by omega), if_neg (by omega), show (115 + 36 * (i - 3) + f - 113 - 2) / 36 = i - 3 by omega, show (115 + 36 * (i - 3) + f - 113 - 2) % 36 = f by omega, show 113 + 2 + 36 * (i - 3) = 115 + 36 * (i - 3) by omega]
theorem arrV_cg {c : ClassId} {n : Nat} {f g : Nat → Value} (h : ∀ j, j < n → f j = g j) : arrV c n f = arrV c n g := by
  unfold arrV
  congr 2
  funext j
  exact h j.val j.isLt
/-- the layout with the addresses of a row of cells -/
def YW (Y : LY) (ad : Nat → Nat) : LY := (Y.1, Y.2.1, fun a i => ad (plc a i), Y.2.2.2)
/-- two contents that the heap can't tell apart -/
def same9 (e e2 : va_E) : Prop := e = e2 ∨ ∃ (c : ClassId) (n : Nat) (f g : Nat → Option Nat), e = aq c n f ∧ e2 = aq c n g ∧ ∀ j, j < n → f j = g j
theorem same9_at {D : va_G} {q : Nat} {e e2 : va_E} {H : Heap} (h : same9 e e2) (hP : va_at D CL (q, e) H) : va_at D CL (q, e2) H := by
  rcases h with rfl | ⟨c, n, f, g, rfl, rfl, h⟩
  · exact hP
  · show H[q]? = some (arrV c n (fun j => va_rf (g j)))
    rw [← arrV_cg (f := fun j => va_rf (f j)) (fun j hj => by rw [h j hj])]
    exact hP
set_option maxRecDepth 1000000 in
set_option maxHeartbeats 8000000 in
theorem m0_cell (Y : LY) (ad : Nat → Nat) (a i : Nat) (hi : i < nF a) : same9 (res ad (S9 Y (plc a i))) (cellV (YW Y ad) a i (M0 a i)) := by
  have ha := nF_lt hi
  match a, hi with
  | 0, hi => obtain rfl : i = 0 := by { have : nF 0 = 1 := rfl; omega }
             exact Or.inl rfl
  | 1, hi =>
    have h9 := svc9 Y i hi 0 (by omega)
    show same9 (res ad (S9 Y (svc0 i + 0))) _
    rw [h9]
    exact Or.inl rfl
  | 2, hi =>
    show same9 (res ad (S9 Y (svc0 i + 1))) _
    rw [svc9 Y i hi 1 (by omega)]
    exact Or.inl rfl
  | 3, hi =>
    have hi : i < 11 := hi
    show same9 (res ad (S9 Y (svc0 i + 2))) _
    rw [svc9 Y i hi 2 (by omega)]
    refine Or.inr ⟨YC Y 3, 20, _, _, rfl, rfl, fun j hj => ?_⟩
    show (if j < 20 then some (svc0 i + 1 + 2 + j) else none).map ad = some (ad (svc0 ((20 * i + j) / 20) + 3 + (20 * i + j) % 20))
    rw [if_pos hj, show (20 * i + j) / 20 = i by omega, show (20 * i + j) % 20 = j by omega]
    rfl
  | 4, hi =>
    have hi : i < 220 := hi
    show same9 (res ad (S9 Y (svc0 (i / 20) + 3 + i % 20))) _
    rw [show svc0 (i / 20) + 3 + i % 20 = svc0 (i / 20) + (3 + i % 20) by omega, svc9 Y (i / 20) (by omega) (3 + i % 20) (by omega)]
    unfold svcB svcT netP
    rw [if_neg (by omega), if_pos (by omega), if_neg (by omega), if_neg (by omega)]
    exact Or.inl rfl
  | 5, hi =>
    have hi : i < 11 := hi
    show same9 (res ad (S9 Y (svc0 i + 23))) _
    rw [svc9 Y i hi 23 (by omega)]
    refine Or.inr ⟨YC Y 4, 12, _, _, rfl, rfl, fun j hj => ?_⟩
    show (if j < 12 then some (svc0 i + 24 + j) else none).map ad = some (ad (svc0 (ix (nI (12 * i + j)) / 12) + 24 + ix (nI (12 * i + j)) % 12))
    rw [if_pos hj, show ix (nI (12 * i + j)) = 12 * i + j from nI_clamp (by omega), show (12 * i + j) / 12 = i by omega, show (12 * i + j) % 12 = j by omega]
    rfl
  | 6, hi =>
    have hi : i < 132 := hi
    show same9 (res ad (S9 Y (svc0 (i / 12) + 24 + i % 12))) _
    rw [show svc0 (i / 12) + 24 + i % 12 = svc0 (i / 12) + (24 + i % 12) by omega, svc9 Y (i / 12) (by omega) (24 + i % 12) (by omega)]
    unfold svcB svcT
    rw [if_neg (by omega), if_neg (by omega), if_neg (by omega)]
    exact Or.inl rfl
  | 12, hi =>
    refine Or.inr ⟨YC Y 5, 8, _, _, rfl, rfl, fun j hj => ?_⟩
    show (if j < 8 then some (113 + 2 + 36 * j) else none).map ad = some (ad (svc0 (3 + j)))
    unfold svc0
    rw [if_pos hj, if_neg (by omega), if_neg (by omega), if_neg (by omega), show 3 + j - 3 = j by omega]
    rfl
  | 16, hi =>
    refine Or.inr ⟨YC Y 6, 10, _, _, rfl, rfl, fun j hj => ?_⟩
    show (if j < 10 then some (403 + 4 + j) else none).map ad = some (ad (407 + j))
    rw [if_pos hj]
    rfl
  | 17, hi =>
    have hi : i < 10 := hi
    show same9 (res ad (S9 Y (407 + i))) _
    have e : S9 Y (407 + i) = aS (YC Y 0) 4 := by
      unfold S9
      rw [if_pos (by omega)]
      unfold x7B x7T
      rw [if_neg (by omega), if_neg (by omega), if_neg (by omega), if_neg (by omega), if_neg (by omega), if_neg (by omega), if_pos (by omega)]
      unfold prgB prgT
      rw [if_neg (by omega), if_neg (by omega), if_neg (by omega), if_neg (by omega)]
    rw [e]
    exact Or.inl rfl
  | 34, hi =>
    have e : bfn (M0 34 0) = fun _ => 0 := by
      funext k
      unfold bfn
      by_cases h : k = 100000
      · rw [if_pos h]
      · rw [if_neg h, show M0 34 0 k = 0 from if_neg h]
        decide
    show same9 _ (.inl (YC Y 7, ix (M0 34 i 100000), .inl (bfn (M0 34 0))))
    rw [e]
    exact Or.inl rfl
  | 7, hi => exact Or.inl rfl
  | 8, hi => exact Or.inl rfl
  | 9, hi => exact Or.inl rfl
  | 10, hi => exact Or.inl rfl
  | 11, hi => exact Or.inl rfl
  | 13, hi => exact Or.inl rfl
  | 14, hi => exact Or.inl rfl
  | 15, hi => exact Or.inl rfl
  | 18, hi => exact Or.inl rfl
  | 19, hi => exact Or.inl rfl
  | 20, hi => exact Or.inl rfl
  | 21, hi => exact Or.inl rfl
  | 22, hi => exact Or.inl rfl
  | 23, hi => exact Or.inl rfl
  | 24, hi => exact Or.inl rfl
  | 25, hi => exact Or.inl rfl
  | 26, hi => exact Or.inl rfl
  | 27, hi => exact Or.inl rfl
  | 28, hi => exact Or.inl rfl
  | 29, hi => exact Or.inl rfl
  | 30, hi => exact Or.inl rfl
  | 31, hi => exact Or.inl rfl
  | 32, hi => exact Or.inl rfl
  | 33, hi => exact Or.inl rfl
  | 36, hi => exact Or.inl rfl
  | 35, hi => exact absurd hi (by have : nF 35 = 0 := rfl; omega)
  | a + 37, hi => omega
theorem hs_start {Y : LY} {ad : Nat → Nat} {H : Heap} (hW : WS9 Y 435 ad (S9 Y) H) : HS (YW Y ad) M0 H := by
  obtain ⟨-, hP, hD⟩ := hW
  have hinj : ∀ k j, k < 435 → j < 435 → ad k = ad j → k = j := fun k j hk hj e => hD.1 k j _ _ (wl_get hk) (wl_get hj) e
  have hx : ∀ k, k < 435 → va_at (YD Y) CL (ad k, res ad (S9 Y k)) H := fun k hk => hP k _ (wl_get hk)
  have hA : ∀ k, k < 435 → AZ Y (ad k) := fun k hk => hD.2 k _ (wl_get hk)
  refine ⟨ad (plc 34 0), ?_⟩
  have eY : ∀ a i, i < nF a → YA (YS (YW Y ad) (ad (plc 34 0))) a i = ad (plc a i) := fun a i hi => by
    by_cases h : a = 34
    · subst h
      exact ys_34 _ _ i
    · rw [ys_ya _ _ i h]; rfl
  refine ⟨fun a i b j hi hj e => ?_, WL 435 ad (fun k => cellV (YS (YW Y ad) (ad (plc 34 0))) (invL.getD k (0, 0)).1 (invL.getD k (0, 0)).2 (M0 (invL.getD k (0, 0)).1 (invL.getD k (0, 0)).2)), fun k q hq => ?_, ⟨fun k j p q hp hq e => ?_, fun k q hq => ?_⟩, fun a i hi => ?_⟩
  · rw [eY a i hi, eY b j hj] at e
    exact plc_inj hi hj (hinj _ _ (plc_inv a (nF_lt hi) i hi).1 (plc_inv b (nF_lt hj) j hj).1 e)
  · have hk : k < 435 := by have := (List.getElem?_eq_some_iff.mp hq).1; rw [wl_len] at this; exact this
    rw [wl_get hk] at hq
    cases hq
    obtain ⟨h1, h2, h3⟩ := inv_plc k hk
    generalize (invL.getD k (0, 0)).1 = a at h1 h2 h3 ⊢
    generalize (invL.getD k (0, 0)).2 = i at h2 h3 ⊢
    have h4 := same9_at (m0_cell Y ad a i h2) (by rw [h3]; exact hx k hk)
    by_cases h19 : a = 19
    · subst h19
      exact h4
    · rw [ys_cell _ _ i _ h19]
      exact h4
  · have hk : k < 435 := by have := (List.getElem?_eq_some_iff.mp hp).1; rw [wl_len] at this; exact this
    have hj : j < 435 := by have := (List.getElem?_eq_some_iff.mp hq).1; rw [wl_len] at this; exact this
    rw [wl_get hk] at hp
    rw [wl_get hj] at hq
    cases hp; cases hq
    exact hinj k j hk hj e
  · have hk : k < 435 := by have := (List.getElem?_eq_some_iff.mp hq).1; rw [wl_len] at this; exact this
    rw [wl_get hk] at hq
    cases hq
    exact hA k hk
  · obtain ⟨h1, h2⟩ := plc_inv a (nF_lt hi) i hi
    refine List.mem_of_getElem? (i := plc a i) ?_
    have e2 : invL.getD (plc a i) (0, 0) = (a, i) := by rw [List.getD_eq_getElem?_getD, h2]; rfl
    rw [wl_get h1, e2, eY a i hi]
