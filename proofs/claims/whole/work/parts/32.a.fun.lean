/-! The law, call by call. -/
theorem law_89 (xs : Nat → Int32) (L : Nat) (k28 : Mem → Int32 → Option Unit) (M : Mem) (i : Int) : f_L_law_3289 xs L k28 M (iZ i) = k28 M (iZ (i + 5)) := by unfold f_L_law_3289; rw [zc_5, z_add]
theorem gd_go {n i : Int} {fL : Option (Int32 × Mem)} {fX : Mem → Option (Int32 × Mem)} (h : Gd n fL fX) (xs : Nat → Int32) (L : Nat) {k28 : Mem → Int32 → Option Unit} (hk : ∀ M2, Rl (n + 1) M2 → k28 M2 (iZ (i + 5)) = some ()) :
    (bd2 fL fun r M1 => bd2 (fX M1) fun r2 M2 => bd (f_X8_thrown M2) fun t => (if t = r then (if r = 0 then (if (lg_cmp ((M2 33 0 0).toInt64) r2.toInt64) = 0 then f_L_law_3289 xs L k28 M2 (iZ i) else none) else f_L_law_3289 xs L k28 M2 (iZ i)) else none)) = some () := by
  obtain ⟨e, M1, r, M2, h1, h2, h3, h4, h5⟩ := h
  rw [h1, bd2_s, h2, bd2_s, show f_X8_thrown M2 = some (M2 20 0 9) from rfl, bd_s, h3, if_pos rfl, law_89, hk M2 h5]
  by_cases c : e = (0 : Int32)
  · rw [if_pos c, h4 c, lg_refl, if_pos rfl]
  · rw [if_neg c]
theorem gdb_go {n i : Int} {fL : Option (Int32 × Mem)} {fX : Mem → Option (Int32 × Mem)} (h : GdB n fL fX) (xs : Nat → Int32) (L : Nat) {k28 : Mem → Int32 → Option Unit} (hk : ∀ M2, Rl (n + 1) M2 → k28 M2 (iZ (i + 5)) = some ()) {go : Mem → Int64 → Int64 → Option Unit} (hgo : ∀ M b, go M b b = f_L_law_3289 xs L k28 M (iZ i)) :
    (bd2 fL fun r M1 => bd2 (fX M1) fun r2 M2 => bd (f_X8_thrown M2) fun t => (if t = r then (if r = 0 then (if r2 = 0 then go M2 (0 : Int64) ((M2 33 0 0).toInt64) else go M2 (1 : Int64) ((M2 33 0 0).toInt64)) else f_L_law_3289 xs L k28 M2 (iZ i)) else none)) = some () := by
  obtain ⟨e, M1, b, M2, h1, h2, h3, h4, h5⟩ := h
  rw [h1, bd2_s, h2, bd2_s, show f_X8_thrown M2 = some (M2 20 0 9) from rfl, bd_s, h3, if_pos rfl]
  by_cases c : e = (0 : Int32)
  · obtain ⟨h6, h7⟩ := h4 c
    rw [if_pos c, h6]
    obtain rfl | rfl := h7
    · rw [if_pos (by decide), show (iZ 0).toInt64 = (0 : Int64) by decide, hgo, law_89, hk M2 h5]
    · rw [if_neg n10, show (iZ 1).toInt64 = (1 : Int64) by decide, hgo, law_89, hk M2 h5]
  · rw [if_neg c, law_89, hk M2 h5]
theorem gt_go {n i : Int} {fC : Option Int32} {fX : Option (Int32 × Mem)} (h : Gt n fC fX) (xs : Nat → Int32) (L : Nat) {k28 : Mem → Int32 → Option Unit} (hk : ∀ M2, Rl (n + 1) M2 → k28 M2 (iZ (i + 5)) = some ()) :
    (bd fC fun r => bd2 fX fun r2 M2 => (if r = r2 then f_L_law_3289 xs L k28 M2 (iZ i) else none)) = some () := by
  obtain ⟨r, M2, h1, h2, h3⟩ := h
  rw [h1, bd_s, h2, bd2_s, if_pos rfl, law_89, hk M2 h3]
theorem vL {L : Nat} {i d : Int} (hL : L ≤ 2560) (i0 : 0 ≤ i) (hi : i + 5 ≤ L) (d0 : 1 ≤ d) (d1 : d ≤ 4) : vin (iZ i + iZ d) L := by
  rw [z_add]
  exact of_eq_true (z_vin (by omega) (by omega) (by omega))
theorem ca_0 {n i : Int} {M : Mem} {xs : Nat → Int32} {L : Nat} (hL : L ≤ 2560) (n0 : 0 ≤ n) (n1 : n ≤ 512) (hR : Rl n M) (i0 : 0 ≤ i) (hi : i + 5 ≤ L) {k28 : Mem → Int32 → Option Unit} (hk : ∀ M2, Rl (n + 1) M2 → k28 M2 (iZ (i + 5)) = some ()) : f_L_law_300 xs L k28 M (iZ i) = some () := by
  unfold f_L_law_300
  exact gd_go (q_addPlace n0 n1 hR) xs L hk
theorem ca_1 {n i : Int} {M : Mem} {xs : Nat → Int32} {L : Nat} (hL : L ≤ 2560) (n0 : 0 ≤ n) (n1 : n ≤ 512) (hR : Rl n M) (i0 : 0 ≤ i) (hi : i + 5 ≤ L) {k28 : Mem → Int32 → Option Unit} (hk : ∀ M2, Rl (n + 1) M2 → k28 M2 (iZ (i + 5)) = some ()) : f_L_law_344 xs L k28 M (iZ i) = some () := by
  unfold f_L_law_344
  rw [if_pos (show vin (iZ i + (1 : Int32)) L from vL hL i0 hi (d := 1) (by omega) (by omega))]
  rw [if_pos (show vin (iZ i + (2 : Int32)) L from vL hL i0 hi (d := 2) (by omega) (by omega))]
  rw [if_pos (show vin (iZ i + (3 : Int32)) L from vL hL i0 hi (d := 3) (by omega) (by omega))]
  rw [if_pos (show vin (iZ i + (4 : Int32)) L from vL hL i0 hi (d := 4) (by omega) (by omega))]
  exact gd_go (q_addLink n0 n1 hR _ _ _ _) xs L hk
theorem ca_2 {n i : Int} {M : Mem} {xs : Nat → Int32} {L : Nat} (hL : L ≤ 2560) (n0 : 0 ≤ n) (n1 : n ≤ 512) (hR : Rl n M) (i0 : 0 ≤ i) (hi : i + 5 ≤ L) {k28 : Mem → Int32 → Option Unit} (hk : ∀ M2, Rl (n + 1) M2 → k28 M2 (iZ (i + 5)) = some ()) : f_L_law_436 xs L k28 M (iZ i) = some () := by
  unfold f_L_law_436
  rw [if_pos (show vin (iZ i + (1 : Int32)) L from vL hL i0 hi (d := 1) (by omega) (by omega))]
  exact gd_go (q_block n0 n1 hR _) xs L hk
theorem ca_3 {n i : Int} {M : Mem} {xs : Nat → Int32} {L : Nat} (hL : L ≤ 2560) (n0 : 0 ≤ n) (n1 : n ≤ 512) (hR : Rl n M) (i0 : 0 ≤ i) (hi : i + 5 ≤ L) {k28 : Mem → Int32 → Option Unit} (hk : ∀ M2, Rl (n + 1) M2 → k28 M2 (iZ (i + 5)) = some ()) : f_L_law_492 xs L k28 M (iZ i) = some () := by
  unfold f_L_law_492
  rw [if_pos (show vin (iZ i + (1 : Int32)) L from vL hL i0 hi (d := 1) (by omega) (by omega))]
  exact gd_go (q_open n0 n1 hR _) xs L hk
theorem ca_4 {n i : Int} {M : Mem} {xs : Nat → Int32} {L : Nat} (hL : L ≤ 2560) (n0 : 0 ≤ n) (n1 : n ≤ 512) (hR : Rl n M) (i0 : 0 ≤ i) (hi : i + 5 ≤ L) {k28 : Mem → Int32 → Option Unit} (hk : ∀ M2, Rl (n + 1) M2 → k28 M2 (iZ (i + 5)) = some ()) : f_L_law_548 xs L k28 M (iZ i) = some () := by
  unfold f_L_law_548
  rw [if_pos (show vin (iZ i + (1 : Int32)) L from vL hL i0 hi (d := 1) (by omega) (by omega))]
  rw [if_pos (show vin (iZ i + (2 : Int32)) L from vL hL i0 hi (d := 2) (by omega) (by omega))]
  rw [if_pos (show vin (iZ i + (3 : Int32)) L from vL hL i0 hi (d := 3) (by omega) (by omega))]
  rw [if_pos (show vin (iZ i + (4 : Int32)) L from vL hL i0 hi (d := 4) (by omega) (by omega))]
  exact gd_go (q_post n0 n1 hR _ _ _ _) xs L hk
theorem ca_5 {n i : Int} {M : Mem} {xs : Nat → Int32} {L : Nat} (hL : L ≤ 2560) (n0 : 0 ≤ n) (n1 : n ≤ 512) (hR : Rl n M) (i0 : 0 ≤ i) (hi : i + 5 ≤ L) {k28 : Mem → Int32 → Option Unit} (hk : ∀ M2, Rl (n + 1) M2 → k28 M2 (iZ (i + 5)) = some ()) : f_L_law_640 xs L k28 M (iZ i) = some () := by
  unfold f_L_law_640
  rw [if_pos (show vin (iZ i + (1 : Int32)) L from vL hL i0 hi (d := 1) (by omega) (by omega))]
  rw [if_pos (show vin (iZ i + (2 : Int32)) L from vL hL i0 hi (d := 2) (by omega) (by omega))]
  exact gd_go (q_send n0 n1 hR _ _) xs L hk
theorem ca_6 {n i : Int} {M : Mem} {xs : Nat → Int32} {L : Nat} (hL : L ≤ 2560) (n0 : 0 ≤ n) (n1 : n ≤ 512) (hR : Rl n M) (i0 : 0 ≤ i) (hi : i + 5 ≤ L) {k28 : Mem → Int32 → Option Unit} (hk : ∀ M2, Rl (n + 1) M2 → k28 M2 (iZ (i + 5)) = some ()) : f_L_law_708 xs L k28 M (iZ i) = some () := by
  unfold f_L_law_708
  rw [if_pos (show vin (iZ i + (1 : Int32)) L from vL hL i0 hi (d := 1) (by omega) (by omega))]
  rw [if_pos (show vin (iZ i + (2 : Int32)) L from vL hL i0 hi (d := 2) (by omega) (by omega))]
  exact gd_go (q_addStamps n0 n1 hR _ _) xs L hk
theorem ca_7 {n i : Int} {M : Mem} {xs : Nat → Int32} {L : Nat} (hL : L ≤ 2560) (n0 : 0 ≤ n) (n1 : n ≤ 512) (hR : Rl n M) (i0 : 0 ≤ i) (hi : i + 5 ≤ L) {k28 : Mem → Int32 → Option Unit} (hk : ∀ M2, Rl (n + 1) M2 → k28 M2 (iZ (i + 5)) = some ()) : f_L_law_776 xs L k28 M (iZ i) = some () := by
  unfold f_L_law_776
  rw [if_pos (show vin (iZ i + (1 : Int32)) L from vL hL i0 hi (d := 1) (by omega) (by omega))]
  exact gd_go (q_takeBack n0 n1 hR _) xs L hk
theorem ca_8 {n i : Int} {M : Mem} {xs : Nat → Int32} {L : Nat} (hL : L ≤ 2560) (n0 : 0 ≤ n) (n1 : n ≤ 512) (hR : Rl n M) (i0 : 0 ≤ i) (hi : i + 5 ≤ L) {k28 : Mem → Int32 → Option Unit} (hk : ∀ M2, Rl (n + 1) M2 → k28 M2 (iZ (i + 5)) = some ()) : f_L_law_832 xs L k28 M (iZ i) = some () := by
  obtain ⟨r, M1, M2, h1, h2, h3⟩ := q_dispatch n0 n1 hR
  unfold f_L_law_832
  rw [h1, bxh_l, h2, bd2_s, if_pos rfl, law_89, hk M2 h3]
theorem ca_9 {n i : Int} {M : Mem} {xs : Nat → Int32} {L : Nat} (hL : L ≤ 2560) (n0 : 0 ≤ n) (n1 : n ≤ 512) (hR : Rl n M) (i0 : 0 ≤ i) (hi : i + 5 ≤ L) {k28 : Mem → Int32 → Option Unit} (hk : ∀ M2, Rl (n + 1) M2 → k28 M2 (iZ (i + 5)) = some ()) : f_L_law_845 xs L k28 M (iZ i) = some () := by
  unfold f_L_law_845
  rw [if_pos (show vin (iZ i + (1 : Int32)) L from vL hL i0 hi (d := 1) (by omega) (by omega))]
  exact gd_go (q_pass n0 n1 hR _) xs L hk
theorem ca_10 {n i : Int} {M : Mem} {xs : Nat → Int32} {L : Nat} (hL : L ≤ 2560) (n0 : 0 ≤ n) (n1 : n ≤ 512) (hR : Rl n M) (i0 : 0 ≤ i) (hi : i + 5 ≤ L) {k28 : Mem → Int32 → Option Unit} (hk : ∀ M2, Rl (n + 1) M2 → k28 M2 (iZ (i + 5)) = some ()) : f_L_law_901 xs L k28 M (iZ i) = some () := by
  unfold f_L_law_901
  exact gt_go (q_hour n0 n1 hR) xs L hk
theorem ca_11 {n i : Int} {M : Mem} {xs : Nat → Int32} {L : Nat} (hL : L ≤ 2560) (n0 : 0 ≤ n) (n1 : n ≤ 512) (hR : Rl n M) (i0 : 0 ≤ i) (hi : i + 5 ≤ L) {k28 : Mem → Int32 → Option Unit} (hk : ∀ M2, Rl (n + 1) M2 → k28 M2 (iZ (i + 5)) = some ()) : f_L_law_914 xs L k28 M (iZ i) = some () := by
  unfold f_L_law_914
  exact gt_go (q_placeCount n0 n1 hR) xs L hk
theorem ca_12 {n i : Int} {M : Mem} {xs : Nat → Int32} {L : Nat} (hL : L ≤ 2560) (n0 : 0 ≤ n) (n1 : n ≤ 512) (hR : Rl n M) (i0 : 0 ≤ i) (hi : i + 5 ≤ L) {k28 : Mem → Int32 → Option Unit} (hk : ∀ M2, Rl (n + 1) M2 → k28 M2 (iZ (i + 5)) = some ()) : f_L_law_927 xs L k28 M (iZ i) = some () := by
  unfold f_L_law_927
  exact gt_go (q_linkCount n0 n1 hR) xs L hk
theorem ca_13 {n i : Int} {M : Mem} {xs : Nat → Int32} {L : Nat} (hL : L ≤ 2560) (n0 : 0 ≤ n) (n1 : n ≤ 512) (hR : Rl n M) (i0 : 0 ≤ i) (hi : i + 5 ≤ L) {k28 : Mem → Int32 → Option Unit} (hk : ∀ M2, Rl (n + 1) M2 → k28 M2 (iZ (i + 5)) = some ()) : f_L_law_940 xs L k28 M (iZ i) = some () := by
  unfold f_L_law_940
  rw [if_pos (show vin (iZ i + (1 : Int32)) L from vL hL i0 hi (d := 1) (by omega) (by omega))]
  exact gd_go (q_linkFrom n0 n1 hR _) xs L hk
theorem ca_14 {n i : Int} {M : Mem} {xs : Nat → Int32} {L : Nat} (hL : L ≤ 2560) (n0 : 0 ≤ n) (n1 : n ≤ 512) (hR : Rl n M) (i0 : 0 ≤ i) (hi : i + 5 ≤ L) {k28 : Mem → Int32 → Option Unit} (hk : ∀ M2, Rl (n + 1) M2 → k28 M2 (iZ (i + 5)) = some ()) : f_L_law_996 xs L k28 M (iZ i) = some () := by
  unfold f_L_law_996
  rw [if_pos (show vin (iZ i + (1 : Int32)) L from vL hL i0 hi (d := 1) (by omega) (by omega))]
  exact gd_go (q_linkTo n0 n1 hR _) xs L hk
theorem ca_15 {n i : Int} {M : Mem} {xs : Nat → Int32} {L : Nat} (hL : L ≤ 2560) (n0 : 0 ≤ n) (n1 : n ≤ 512) (hR : Rl n M) (i0 : 0 ≤ i) (hi : i + 5 ≤ L) {k28 : Mem → Int32 → Option Unit} (hk : ∀ M2, Rl (n + 1) M2 → k28 M2 (iZ (i + 5)) = some ()) : f_L_law_1052 xs L k28 M (iZ i) = some () := by
  unfold f_L_law_1052
  rw [if_pos (show vin (iZ i + (1 : Int32)) L from vL hL i0 hi (d := 1) (by omega) (by omega))]
  exact gd_go (q_travelTime n0 n1 hR _) xs L hk
theorem ca_16 {n i : Int} {M : Mem} {xs : Nat → Int32} {L : Nat} (hL : L ≤ 2560) (n0 : 0 ≤ n) (n1 : n ≤ 512) (hR : Rl n M) (i0 : 0 ≤ i) (hi : i + 5 ≤ L) {k28 : Mem → Int32 → Option Unit} (hk : ∀ M2, Rl (n + 1) M2 → k28 M2 (iZ (i + 5)) = some ()) : f_L_law_1108 xs L k28 M (iZ i) = some () := by
  unfold f_L_law_1108
  rw [if_pos (show vin (iZ i + (1 : Int32)) L from vL hL i0 hi (d := 1) (by omega) (by omega))]
  exact gdb_go (q_isBlocked n0 n1 hR _) xs L hk (go := fun M b0 b1 => f_L_law_1162 xs L k28 M (iZ i) b0 b1) (fun M b => by unfold f_L_law_1162; rw [lg_refl, if_pos rfl])
theorem ca_17 {n i : Int} {M : Mem} {xs : Nat → Int32} {L : Nat} (hL : L ≤ 2560) (n0 : 0 ≤ n) (n1 : n ≤ 512) (hR : Rl n M) (i0 : 0 ≤ i) (hi : i + 5 ≤ L) {k28 : Mem → Int32 → Option Unit} (hk : ∀ M2, Rl (n + 1) M2 → k28 M2 (iZ (i + 5)) = some ()) : f_L_law_1171 xs L k28 M (iZ i) = some () := by
  unfold f_L_law_1171
  rw [if_pos (show vin (iZ i + (1 : Int32)) L from vL hL i0 hi (d := 1) (by omega) (by omega))]
  rw [if_pos (show vin (iZ i + (2 : Int32)) L from vL hL i0 hi (d := 2) (by omega) (by omega))]
  exact gdb_go (q_isOpenAt n0 n1 hR _ _) xs L hk (go := fun M b0 b1 => f_L_law_1237 xs L k28 M (iZ i) b0 b1) (fun M b => by unfold f_L_law_1237; rw [lg_refl, if_pos rfl])
theorem ca_18 {n i : Int} {M : Mem} {xs : Nat → Int32} {L : Nat} (hL : L ≤ 2560) (n0 : 0 ≤ n) (n1 : n ≤ 512) (hR : Rl n M) (i0 : 0 ≤ i) (hi : i + 5 ≤ L) {k28 : Mem → Int32 → Option Unit} (hk : ∀ M2, Rl (n + 1) M2 → k28 M2 (iZ (i + 5)) = some ()) : f_L_law_1246 xs L k28 M (iZ i) = some () := by
  unfold f_L_law_1246
  rw [if_pos (show vin (iZ i + (1 : Int32)) L from vL hL i0 hi (d := 1) (by omega) (by omega))]
  exact gd_go (q_loadOf n0 n1 hR _) xs L hk
theorem ca_19 {n i : Int} {M : Mem} {xs : Nat → Int32} {L : Nat} (hL : L ≤ 2560) (n0 : 0 ≤ n) (n1 : n ≤ 512) (hR : Rl n M) (i0 : 0 ≤ i) (hi : i + 5 ≤ L) {k28 : Mem → Int32 → Option Unit} (hk : ∀ M2, Rl (n + 1) M2 → k28 M2 (iZ (i + 5)) = some ()) : f_L_law_1302 xs L k28 M (iZ i) = some () := by
  unfold f_L_law_1302
  exact gd_go (q_busiestLink n0 n1 hR) xs L hk
theorem ca_20 {n i : Int} {M : Mem} {xs : Nat → Int32} {L : Nat} (hL : L ≤ 2560) (n0 : 0 ≤ n) (n1 : n ≤ 512) (hR : Rl n M) (i0 : 0 ≤ i) (hi : i + 5 ≤ L) {k28 : Mem → Int32 → Option Unit} (hk : ∀ M2, Rl (n + 1) M2 → k28 M2 (iZ (i + 5)) = some ()) : f_L_law_1346 xs L k28 M (iZ i) = some () := by
  unfold f_L_law_1346
  rw [if_pos (show vin (iZ i + (1 : Int32)) L from vL hL i0 hi (d := 1) (by omega) (by omega))]
  exact gd_go (q_degree n0 n1 hR _) xs L hk
theorem ca_21 {n i : Int} {M : Mem} {xs : Nat → Int32} {L : Nat} (hL : L ≤ 2560) (n0 : 0 ≤ n) (n1 : n ≤ 512) (hR : Rl n M) (i0 : 0 ≤ i) (hi : i + 5 ≤ L) {k28 : Mem → Int32 → Option Unit} (hk : ∀ M2, Rl (n + 1) M2 → k28 M2 (iZ (i + 5)) = some ()) : f_L_law_1402 xs L k28 M (iZ i) = some () := by
  unfold f_L_law_1402
  exact gt_go (q_parcelCount n0 n1 hR) xs L hk
theorem ca_22 {n i : Int} {M : Mem} {xs : Nat → Int32} {L : Nat} (hL : L ≤ 2560) (n0 : 0 ≤ n) (n1 : n ≤ 512) (hR : Rl n M) (i0 : 0 ≤ i) (hi : i + 5 ≤ L) {k28 : Mem → Int32 → Option Unit} (hk : ∀ M2, Rl (n + 1) M2 → k28 M2 (iZ (i + 5)) = some ()) : f_L_law_1415 xs L k28 M (iZ i) = some () := by
  unfold f_L_law_1415
  rw [if_pos (show vin (iZ i + (1 : Int32)) L from vL hL i0 hi (d := 1) (by omega) (by omega))]
  exact gd_go (q_idAt n0 n1 hR _) xs L hk
theorem ca_23 {n i : Int} {M : Mem} {xs : Nat → Int32} {L : Nat} (hL : L ≤ 2560) (n0 : 0 ≤ n) (n1 : n ≤ 512) (hR : Rl n M) (i0 : 0 ≤ i) (hi : i + 5 ≤ L) {k28 : Mem → Int32 → Option Unit} (hk : ∀ M2, Rl (n + 1) M2 → k28 M2 (iZ (i + 5)) = some ()) : f_L_law_1471 xs L k28 M (iZ i) = some () := by
  unfold f_L_law_1471
  rw [if_pos (show vin (iZ i + (1 : Int32)) L from vL hL i0 hi (d := 1) (by omega) (by omega))]
  exact gdb_go (q_isTravelling n0 n1 hR _) xs L hk (go := fun M b0 b1 => f_L_law_1525 xs L k28 M (iZ i) b0 b1) (fun M b => by unfold f_L_law_1525; rw [lg_refl, if_pos rfl])
theorem ca_24 {n i : Int} {M : Mem} {xs : Nat → Int32} {L : Nat} (hL : L ≤ 2560) (n0 : 0 ≤ n) (n1 : n ≤ 512) (hR : Rl n M) (i0 : 0 ≤ i) (hi : i + 5 ≤ L) {k28 : Mem → Int32 → Option Unit} (hk : ∀ M2, Rl (n + 1) M2 → k28 M2 (iZ (i + 5)) = some ()) : f_L_law_1534 xs L k28 M (iZ i) = some () := by
  unfold f_L_law_1534
  rw [if_pos (show vin (iZ i + (1 : Int32)) L from vL hL i0 hi (d := 1) (by omega) (by omega))]
  exact gd_go (q_placeOf n0 n1 hR _) xs L hk
theorem ca_25 {n i : Int} {M : Mem} {xs : Nat → Int32} {L : Nat} (hL : L ≤ 2560) (n0 : 0 ≤ n) (n1 : n ≤ 512) (hR : Rl n M) (i0 : 0 ≤ i) (hi : i + 5 ≤ L) {k28 : Mem → Int32 → Option Unit} (hk : ∀ M2, Rl (n + 1) M2 → k28 M2 (iZ (i + 5)) = some ()) : f_L_law_1590 xs L k28 M (iZ i) = some () := by
  unfold f_L_law_1590
  rw [if_pos (show vin (iZ i + (1 : Int32)) L from vL hL i0 hi (d := 1) (by omega) (by omega))]
  exact gd_go (q_linkOf n0 n1 hR _) xs L hk
theorem ca_26 {n i : Int} {M : Mem} {xs : Nat → Int32} {L : Nat} (hL : L ≤ 2560) (n0 : 0 ≤ n) (n1 : n ≤ 512) (hR : Rl n M) (i0 : 0 ≤ i) (hi : i + 5 ≤ L) {k28 : Mem → Int32 → Option Unit} (hk : ∀ M2, Rl (n + 1) M2 → k28 M2 (iZ (i + 5)) = some ()) : f_L_law_1646 xs L k28 M (iZ i) = some () := by
  unfold f_L_law_1646
  rw [if_pos (show vin (iZ i + (1 : Int32)) L from vL hL i0 hi (d := 1) (by omega) (by omega))]
  exact gd_go (q_arrivalOf n0 n1 hR _) xs L hk
theorem ca_27 {n i : Int} {M : Mem} {xs : Nat → Int32} {L : Nat} (hL : L ≤ 2560) (n0 : 0 ≤ n) (n1 : n ≤ 512) (hR : Rl n M) (i0 : 0 ≤ i) (hi : i + 5 ≤ L) {k28 : Mem → Int32 → Option Unit} (hk : ∀ M2, Rl (n + 1) M2 → k28 M2 (iZ (i + 5)) = some ()) : f_L_law_1702 xs L k28 M (iZ i) = some () := by
  unfold f_L_law_1702
  rw [if_pos (show vin (iZ i + (1 : Int32)) L from vL hL i0 hi (d := 1) (by omega) (by omega))]
  exact gd_go (q_destinationOf n0 n1 hR _) xs L hk
theorem ca_28 {n i : Int} {M : Mem} {xs : Nat → Int32} {L : Nat} (hL : L ≤ 2560) (n0 : 0 ≤ n) (n1 : n ≤ 512) (hR : Rl n M) (i0 : 0 ≤ i) (hi : i + 5 ≤ L) {k28 : Mem → Int32 → Option Unit} (hk : ∀ M2, Rl (n + 1) M2 → k28 M2 (iZ (i + 5)) = some ()) : f_L_law_1758 xs L k28 M (iZ i) = some () := by
  unfold f_L_law_1758
  rw [if_pos (show vin (iZ i + (1 : Int32)) L from vL hL i0 hi (d := 1) (by omega) (by omega))]
  exact gd_go (q_weightOf n0 n1 hR _) xs L hk
theorem ca_29 {n i : Int} {M : Mem} {xs : Nat → Int32} {L : Nat} (hL : L ≤ 2560) (n0 : 0 ≤ n) (n1 : n ≤ 512) (hR : Rl n M) (i0 : 0 ≤ i) (hi : i + 5 ≤ L) {k28 : Mem → Int32 → Option Unit} (hk : ∀ M2, Rl (n + 1) M2 → k28 M2 (iZ (i + 5)) = some ()) : f_L_law_1814 xs L k28 M (iZ i) = some () := by
  unfold f_L_law_1814
  rw [if_pos (show vin (iZ i + (1 : Int32)) L from vL hL i0 hi (d := 1) (by omega) (by omega))]
  exact gd_go (q_stampsOf n0 n1 hR _) xs L hk
theorem ca_30 {n i : Int} {M : Mem} {xs : Nat → Int32} {L : Nat} (hL : L ≤ 2560) (n0 : 0 ≤ n) (n1 : n ≤ 512) (hR : Rl n M) (i0 : 0 ≤ i) (hi : i + 5 ≤ L) {k28 : Mem → Int32 → Option Unit} (hk : ∀ M2, Rl (n + 1) M2 → k28 M2 (iZ (i + 5)) = some ()) : f_L_law_1870 xs L k28 M (iZ i) = some () := by
  unfold f_L_law_1870
  rw [if_pos (show vin (iZ i + (1 : Int32)) L from vL hL i0 hi (d := 1) (by omega) (by omega))]
  exact gd_go (q_waitingIn n0 n1 hR _) xs L hk
theorem ca_31 {n i : Int} {M : Mem} {xs : Nat → Int32} {L : Nat} (hL : L ≤ 2560) (n0 : 0 ≤ n) (n1 : n ≤ 512) (hR : Rl n M) (i0 : 0 ≤ i) (hi : i + 5 ≤ L) {k28 : Mem → Int32 → Option Unit} (hk : ∀ M2, Rl (n + 1) M2 → k28 M2 (iZ (i + 5)) = some ()) : f_L_law_1926 xs L k28 M (iZ i) = some () := by
  unfold f_L_law_1926
  rw [if_pos (show vin (iZ i + (1 : Int32)) L from vL hL i0 hi (d := 1) (by omega) (by omega))]
  rw [if_pos (show vin (iZ i + (2 : Int32)) L from vL hL i0 hi (d := 2) (by omega) (by omega))]
  rw [if_pos (show vin (iZ i + (3 : Int32)) L from vL hL i0 hi (d := 3) (by omega) (by omega))]
  exact gd_go (q_earliestArrival n0 n1 hR _ _ _) xs L hk
theorem ca_32 {n i : Int} {M : Mem} {xs : Nat → Int32} {L : Nat} (hL : L ≤ 2560) (n0 : 0 ≤ n) (n1 : n ≤ 512) (hR : Rl n M) (i0 : 0 ≤ i) (hi : i + 5 ≤ L) {k28 : Mem → Int32 → Option Unit} (hk : ∀ M2, Rl (n + 1) M2 → k28 M2 (iZ (i + 5)) = some ()) : f_L_law_2006 xs L k28 M (iZ i) = some () := by
  unfold f_L_law_2006
  rw [if_pos (show vin (iZ i + (1 : Int32)) L from vL hL i0 hi (d := 1) (by omega) (by omega))]
  rw [if_pos (show vin (iZ i + (2 : Int32)) L from vL hL i0 hi (d := 2) (by omega) (by omega))]
  rw [if_pos (show vin (iZ i + (3 : Int32)) L from vL hL i0 hi (d := 3) (by omega) (by omega))]
  exact gd_go (q_earliestArrivalByHours n0 n1 hR _ _ _) xs L hk
theorem ca_33 {n i : Int} {M : Mem} {xs : Nat → Int32} {L : Nat} (hL : L ≤ 2560) (n0 : 0 ≤ n) (n1 : n ≤ 512) (hR : Rl n M) (i0 : 0 ≤ i) (hi : i + 5 ≤ L) {k28 : Mem → Int32 → Option Unit} (hk : ∀ M2, Rl (n + 1) M2 → k28 M2 (iZ (i + 5)) = some ()) : f_L_law_2086 xs L k28 M (iZ i) = some () := by
  unfold f_L_law_2086
  rw [if_pos (show vin (iZ i + (1 : Int32)) L from vL hL i0 hi (d := 1) (by omega) (by omega))]
  rw [if_pos (show vin (iZ i + (2 : Int32)) L from vL hL i0 hi (d := 2) (by omega) (by omega))]
  exact gd_go (q_fewestLinks n0 n1 hR _ _) xs L hk
theorem ca_34 {n i : Int} {M : Mem} {xs : Nat → Int32} {L : Nat} (hL : L ≤ 2560) (n0 : 0 ≤ n) (n1 : n ≤ 512) (hR : Rl n M) (i0 : 0 ≤ i) (hi : i + 5 ≤ L) {k28 : Mem → Int32 → Option Unit} (hk : ∀ M2, Rl (n + 1) M2 → k28 M2 (iZ (i + 5)) = some ()) : f_L_law_2154 xs L k28 M (iZ i) = some () := by
  unfold f_L_law_2154
  rw [if_pos (show vin (iZ i + (1 : Int32)) L from vL hL i0 hi (d := 1) (by omega) (by omega))]
  exact gd_go (q_reachable n0 n1 hR _) xs L hk
theorem ca_35 {n i : Int} {M : Mem} {xs : Nat → Int32} {L : Nat} (hL : L ≤ 2560) (n0 : 0 ≤ n) (n1 : n ≤ 512) (hR : Rl n M) (i0 : 0 ≤ i) (hi : i + 5 ≤ L) {k28 : Mem → Int32 → Option Unit} (hk : ∀ M2, Rl (n + 1) M2 → k28 M2 (iZ (i + 5)) = some ()) : f_L_law_2210 xs L k28 M (iZ i) = some () := by
  unfold f_L_law_2210
  rw [if_pos (show vin (iZ i + (1 : Int32)) L from vL hL i0 hi (d := 1) (by omega) (by omega))]
  exact gd_go (q_forecast n0 n1 hR _) xs L hk
theorem ca_36 {n i : Int} {M : Mem} {xs : Nat → Int32} {L : Nat} (hL : L ≤ 2560) (n0 : 0 ≤ n) (n1 : n ≤ 512) (hR : Rl n M) (i0 : 0 ≤ i) (hi : i + 5 ≤ L) {k28 : Mem → Int32 → Option Unit} (hk : ∀ M2, Rl (n + 1) M2 → k28 M2 (iZ (i + 5)) = some ()) : f_L_law_2266 xs L k28 M (iZ i) = some () := by
  unfold f_L_law_2266
  rw [if_pos (show vin (iZ i + (1 : Int32)) L from vL hL i0 hi (d := 1) (by omega) (by omega))]
  exact gd_go (q_nextLink n0 n1 hR _) xs L hk
theorem ca_37 {n i : Int} {M : Mem} {xs : Nat → Int32} {L : Nat} (hL : L ≤ 2560) (n0 : 0 ≤ n) (n1 : n ≤ 512) (hR : Rl n M) (i0 : 0 ≤ i) (hi : i + 5 ≤ L) {k28 : Mem → Int32 → Option Unit} (hk : ∀ M2, Rl (n + 1) M2 → k28 M2 (iZ (i + 5)) = some ()) : f_L_law_2322 xs L k28 M (iZ i) = some () := by
  unfold f_L_law_2322
  rw [if_pos (show vin (iZ i + (1 : Int32)) L from vL hL i0 hi (d := 1) (by omega) (by omega))]
  rw [if_pos (show vin (iZ i + (2 : Int32)) L from vL hL i0 hi (d := 2) (by omega) (by omega))]
  exact gdb_go (q_canSend n0 n1 hR _ _) xs L hk (go := fun M b0 b1 => f_L_law_2388 xs L k28 M (iZ i) b0 b1) (fun M b => by unfold f_L_law_2388; rw [lg_refl, if_pos rfl])
theorem ca_38 {n i : Int} {M : Mem} {xs : Nat → Int32} {L : Nat} (hL : L ≤ 2560) (n0 : 0 ≤ n) (n1 : n ≤ 512) (hR : Rl n M) (i0 : 0 ≤ i) (hi : i + 5 ≤ L) {k28 : Mem → Int32 → Option Unit} (hk : ∀ M2, Rl (n + 1) M2 → k28 M2 (iZ (i + 5)) = some ()) : f_L_law_2397 xs L k28 M (iZ i) = some () := by
  unfold f_L_law_2397
  rw [if_pos (show vin (iZ i + (1 : Int32)) L from vL hL i0 hi (d := 1) (by omega) (by omega))]
  exact gd_go (q_stampsMissing n0 n1 hR _) xs L hk
theorem ca_39 {n i : Int} {M : Mem} {xs : Nat → Int32} {L : Nat} (hL : L ≤ 2560) (n0 : 0 ≤ n) (n1 : n ≤ 512) (hR : Rl n M) (i0 : 0 ≤ i) (hi : i + 5 ≤ L) {k28 : Mem → Int32 → Option Unit} (hk : ∀ M2, Rl (n + 1) M2 → k28 M2 (iZ (i + 5)) = some ()) : f_L_law_2453 xs L k28 M (iZ i) = some () := by
  unfold f_L_law_2453
  rw [if_pos (show vin (iZ i + (1 : Int32)) L from vL hL i0 hi (d := 1) (by omega) (by omega))]
  exact gd_go (q_parcelByForecast n0 n1 hR _) xs L hk
theorem ca_40 {n i : Int} {M : Mem} {xs : Nat → Int32} {L : Nat} (hL : L ≤ 2560) (n0 : 0 ≤ n) (n1 : n ≤ 512) (hR : Rl n M) (i0 : 0 ≤ i) (hi : i + 5 ≤ L) {k28 : Mem → Int32 → Option Unit} (hk : ∀ M2, Rl (n + 1) M2 → k28 M2 (iZ (i + 5)) = some ()) : f_L_law_2509 xs L k28 M (iZ i) = some () := by
  unfold f_L_law_2509
  rw [if_pos (show vin (iZ i + (1 : Int32)) L from vL hL i0 hi (d := 1) (by omega) (by omega))]
  exact gd_go (q_arrivalsWithin n0 n1 hR _) xs L hk
theorem ca_41 {n i : Int} {M : Mem} {xs : Nat → Int32} {L : Nat} (hL : L ≤ 2560) (n0 : 0 ≤ n) (n1 : n ≤ 512) (hR : Rl n M) (i0 : 0 ≤ i) (hi : i + 5 ≤ L) {k28 : Mem → Int32 → Option Unit} (hk : ∀ M2, Rl (n + 1) M2 → k28 M2 (iZ (i + 5)) = some ()) : f_L_law_2565 xs L k28 M (iZ i) = some () := by
  unfold f_L_law_2565
  rw [if_pos (show vin (iZ i + (1 : Int32)) L from vL hL i0 hi (d := 1) (by omega) (by omega))]
  exact gd_go (q_deliveredIf n0 n1 hR _) xs L hk
theorem ca_42 {n i : Int} {M : Mem} {xs : Nat → Int32} {L : Nat} (hL : L ≤ 2560) (n0 : 0 ≤ n) (n1 : n ≤ 512) (hR : Rl n M) (i0 : 0 ≤ i) (hi : i + 5 ≤ L) {k28 : Mem → Int32 → Option Unit} (hk : ∀ M2, Rl (n + 1) M2 → k28 M2 (iZ (i + 5)) = some ()) : f_L_law_2621 xs L k28 M (iZ i) = some () := by
  unfold f_L_law_2621
  exact gt_go (q_postedTotal n0 n1 hR) xs L hk
theorem ca_43 {n i : Int} {M : Mem} {xs : Nat → Int32} {L : Nat} (hL : L ≤ 2560) (n0 : 0 ≤ n) (n1 : n ≤ 512) (hR : Rl n M) (i0 : 0 ≤ i) (hi : i + 5 ≤ L) {k28 : Mem → Int32 → Option Unit} (hk : ∀ M2, Rl (n + 1) M2 → k28 M2 (iZ (i + 5)) = some ()) : f_L_law_2634 xs L k28 M (iZ i) = some () := by
  unfold f_L_law_2634
  exact gt_go (q_deliveredTotal n0 n1 hR) xs L hk
theorem ca_44 {n i : Int} {M : Mem} {xs : Nat → Int32} {L : Nat} (hL : L ≤ 2560) (n0 : 0 ≤ n) (n1 : n ≤ 512) (hR : Rl n M) (i0 : 0 ≤ i) (hi : i + 5 ≤ L) {k28 : Mem → Int32 → Option Unit} (hk : ∀ M2, Rl (n + 1) M2 → k28 M2 (iZ (i + 5)) = some ()) : f_L_law_2647 xs L k28 M (iZ i) = some () := by
  unfold f_L_law_2647
  exact gt_go (q_takenBackTotal n0 n1 hR) xs L hk
theorem ca_45 {n i : Int} {M : Mem} {xs : Nat → Int32} {L : Nat} (hL : L ≤ 2560) (n0 : 0 ≤ n) (n1 : n ≤ 512) (hR : Rl n M) (i0 : 0 ≤ i) (hi : i + 5 ≤ L) {k28 : Mem → Int32 → Option Unit} (hk : ∀ M2, Rl (n + 1) M2 → k28 M2 (iZ (i + 5)) = some ()) : f_L_law_2660 xs L k28 M (iZ i) = some () := by
  unfold f_L_law_2660
  exact gt_go (q_usedStamps n0 n1 hR) xs L hk
theorem ca_46 {n i : Int} {M : Mem} {xs : Nat → Int32} {L : Nat} (hL : L ≤ 2560) (n0 : 0 ≤ n) (n1 : n ≤ 512) (hR : Rl n M) (i0 : 0 ≤ i) (hi : i + 5 ≤ L) {k28 : Mem → Int32 → Option Unit} (hk : ∀ M2, Rl (n + 1) M2 → k28 M2 (iZ (i + 5)) = some ()) : f_L_law_2673 xs L k28 M (iZ i) = some () := by
  obtain ⟨e, M1, r, M2, h1, h2, h3, h4, h5⟩ := q_meanStamps n0 n1 hR
  unfold f_L_law_2673
  rw [h1, bd2_s, h2, bd2_s, show f_X8_thrown M2 = some (M2 20 0 9) from rfl, bd_s, h3, if_pos rfl, law_89, hk M2 h5]
  by_cases c : e = (0 : Int32)
  · rw [if_pos c, h4 c]
    by_cases c2 : (Op.cmpValue (FP.dcmp r r) .l) = 0
    · rw [if_pos c2]
    · rw [if_neg c2, if_neg c2, if_neg c2]
  · rw [if_neg c]
theorem ca_47 {n i : Int} {M : Mem} {xs : Nat → Int32} {L : Nat} (hL : L ≤ 2560) (n0 : 0 ≤ n) (n1 : n ≤ 512) (hR : Rl n M) (i0 : 0 ≤ i) (hi : i + 5 ≤ L) {k28 : Mem → Int32 → Option Unit} (hk : ∀ M2, Rl (n + 1) M2 → k28 M2 (iZ (i + 5)) = some ()) : f_L_law_2738 xs L k28 M (iZ i) = some () := by
  obtain ⟨e, M1, r, M2, h1, h2, h3, h4, h5⟩ := q_blockedShare n0 n1 hR
  unfold f_L_law_2738
  rw [h1, bd2_s, h2, bd2_s, show f_X8_thrown M2 = some (M2 20 0 9) from rfl, bd_s, h3, if_pos rfl, law_89, hk M2 h5]
  by_cases c : e = (0 : Int32)
  · obtain ⟨h6, h7, h8⟩ := h4 c
    rw [if_pos c, if_pos h7, h6, if_pos h8]
  · rw [if_neg c]
theorem ca_48 {n i : Int} {M : Mem} {xs : Nat → Int32} {L : Nat} (hL : L ≤ 2560) (n0 : 0 ≤ n) (n1 : n ≤ 512) (hR : Rl n M) (i0 : 0 ≤ i) (hi : i + 5 ≤ L) {k28 : Mem → Int32 → Option Unit} (hk : ∀ M2, Rl (n + 1) M2 → k28 M2 (iZ (i + 5)) = some ()) : f_L_law_2804 xs L k28 M (iZ i) = some () := by
  obtain ⟨r, M1, M2, h1, h2, h3⟩ := q_isConsistent n0 n1 hR
  unfold f_L_law_2804
  rw [h1, bd2_s, h2, bd2_s, if_pos rfl, law_89, hk M2 h3]
theorem ca_49 {n i : Int} {M : Mem} {xs : Nat → Int32} {L : Nat} (hL : L ≤ 2560) (n0 : 0 ≤ n) (n1 : n ≤ 512) (hR : Rl n M) (i0 : 0 ≤ i) (hi : i + 5 ≤ L) {k28 : Mem → Int32 → Option Unit} (hk : ∀ M2, Rl (n + 1) M2 → k28 M2 (iZ (i + 5)) = some ()) : f_L_law_2817 xs L k28 M (iZ i) = some () := by
  unfold f_L_law_2817
  rw [if_pos (show vin (iZ i + (1 : Int32)) L from vL hL i0 hi (d := 1) (by omega) (by omega))]
  exact gd_go (q_formatParcel n0 n1 hR _) xs L hk
theorem ca_50 {n i : Int} {M : Mem} {xs : Nat → Int32} {L : Nat} (hL : L ≤ 2560) (n0 : 0 ≤ n) (n1 : n ≤ 512) (hR : Rl n M) (i0 : 0 ≤ i) (hi : i + 5 ≤ L) {k28 : Mem → Int32 → Option Unit} (hk : ∀ M2, Rl (n + 1) M2 → k28 M2 (iZ (i + 5)) = some ()) : f_L_law_2873 xs L k28 M (iZ i) = some () := by
  unfold f_L_law_2873
  rw [if_pos (show vin (iZ i + (1 : Int32)) L from vL hL i0 hi (d := 1) (by omega) (by omega))]
  exact gd_go (q_formatLink n0 n1 hR _) xs L hk
theorem ca_51 {n i : Int} {M : Mem} {xs : Nat → Int32} {L : Nat} (hL : L ≤ 2560) (n0 : 0 ≤ n) (n1 : n ≤ 512) (hR : Rl n M) (i0 : 0 ≤ i) (hi : i + 5 ≤ L) {k28 : Mem → Int32 → Option Unit} (hk : ∀ M2, Rl (n + 1) M2 → k28 M2 (iZ (i + 5)) = some ()) : f_L_law_2929 xs L k28 M (iZ i) = some () := by
  unfold f_L_law_2929
  rw [if_pos (show vin (iZ i + (1 : Int32)) L from vL hL i0 hi (d := 1) (by omega) (by omega))]
  exact gd_go (q_lineChar n0 n1 hR _) xs L hk
theorem ca_52 {n i : Int} {M : Mem} {xs : Nat → Int32} {L : Nat} (hL : L ≤ 2560) (n0 : 0 ≤ n) (n1 : n ≤ 512) (hR : Rl n M) (i0 : 0 ≤ i) (hi : i + 5 ≤ L) {k28 : Mem → Int32 → Option Unit} (hk : ∀ M2, Rl (n + 1) M2 → k28 M2 (iZ (i + 5)) = some ()) : f_L_law_2985 xs L k28 M (iZ i) = some () := by
  unfold f_L_law_2985
  rw [if_pos (show vin (iZ i + (1 : Int32)) L from vL hL i0 hi (d := 1) (by omega) (by omega))]
  exact gd_go (q_append hR _) xs L hk
theorem ca_53 {n i : Int} {M : Mem} {xs : Nat → Int32} {L : Nat} (hL : L ≤ 2560) (n0 : 0 ≤ n) (n1 : n ≤ 512) (hR : Rl n M) (i0 : 0 ≤ i) (hi : i + 5 ≤ L) {k28 : Mem → Int32 → Option Unit} (hk : ∀ M2, Rl (n + 1) M2 → k28 M2 (iZ (i + 5)) = some ()) : f_L_law_3043 xs L k28 M (iZ i) = some () := by
  unfold f_L_law_3043
  exact gd_go (q_run n0 n1 hR) xs L hk
theorem ca_54 {n i : Int} {M : Mem} {xs : Nat → Int32} {L : Nat} (hL : L ≤ 2560) (n0 : 0 ≤ n) (n1 : n ≤ 512) (hR : Rl n M) (i0 : 0 ≤ i) (hi : i + 5 ≤ L) {k28 : Mem → Int32 → Option Unit} (hk : ∀ M2, Rl (n + 1) M2 → k28 M2 (iZ (i + 5)) = some ()) : f_L_law_3087 xs L k28 M (iZ i) = some () := by
  unfold f_L_law_3087
  exact gd_go (q_errorPosition hR) xs L hk
theorem ca_55 {n i : Int} {M : Mem} {xs : Nat → Int32} {L : Nat} (hL : L ≤ 2560) (n0 : 0 ≤ n) (n1 : n ≤ 512) (hR : Rl n M) (i0 : 0 ≤ i) (hi : i + 5 ≤ L) {k28 : Mem → Int32 → Option Unit} (hk : ∀ M2, Rl (n + 1) M2 → k28 M2 (iZ (i + 5)) = some ()) : f_L_law_3131 xs L k28 M (iZ i) = some () := by
  unfold f_L_law_3131
  exact gd_go (q_failedCommand hR) xs L hk
theorem ca_56 {n i : Int} {M : Mem} {xs : Nat → Int32} {L : Nat} (hL : L ≤ 2560) (n0 : 0 ≤ n) (n1 : n ≤ 512) (hR : Rl n M) (i0 : 0 ≤ i) (hi : i + 5 ≤ L) {k28 : Mem → Int32 → Option Unit} (hk : ∀ M2, Rl (n + 1) M2 → k28 M2 (iZ (i + 5)) = some ()) : f_L_law_3175 xs L k28 M (iZ i) = some () := by
  unfold f_L_law_3175
  exact gt_go (q_undoableCount hR) xs L hk
theorem ca_57 {n i : Int} {M : Mem} {xs : Nat → Int32} {L : Nat} (hL : L ≤ 2560) (n0 : 0 ≤ n) (n1 : n ≤ 512) (hR : Rl n M) (i0 : 0 ≤ i) (hi : i + 5 ≤ L) {k28 : Mem → Int32 → Option Unit} (hk : ∀ M2, Rl (n + 1) M2 → k28 M2 (iZ (i + 5)) = some ()) : f_L_law_3188 xs L k28 M (iZ i) = some () := by
  unfold f_L_law_3188
  exact gd_go (q_undo n0 n1 hR) xs L hk
theorem ca_58 {n i : Int} {M : Mem} {xs : Nat → Int32} {L : Nat} (hL : L ≤ 2560) (n0 : 0 ≤ n) (n1 : n ≤ 512) (hR : Rl n M) (i0 : 0 ≤ i) (hi : i + 5 ≤ L) {k28 : Mem → Int32 → Option Unit} (hk : ∀ M2, Rl (n + 1) M2 → k28 M2 (iZ (i + 5)) = some ()) : f_L_law_3232 xs L k28 M (iZ i) = some () := by
  obtain ⟨r, M1, M2, h1, h2, h3⟩ := q_save n0 n1 hR
  unfold f_L_law_3232
  rw [h1, bd2_s, h2, bd2_s, if_pos rfl, law_89, hk M2 h3]
theorem ca_59 {n i : Int} {M : Mem} {xs : Nat → Int32} {L : Nat} (hL : L ≤ 2560) (n0 : 0 ≤ n) (n1 : n ≤ 512) (hR : Rl n M) (i0 : 0 ≤ i) (hi : i + 5 ≤ L) {k28 : Mem → Int32 → Option Unit} (hk : ∀ M2, Rl (n + 1) M2 → k28 M2 (iZ (i + 5)) = some ()) : f_L_law_3245 xs L k28 M (iZ i) = some () := by
  unfold f_L_law_3245
  exact gd_go (q_restore n0 n1 hR) xs L hk
theorem ite_so {c : Prop} [Decidable c] {a b : Option Unit} (h1 : a = some ()) (h2 : b = some ()) : (if c then a else b) = some () := by
  split
  · exact h1
  · exact h2
theorem law_loop (xs : Nat → Int32) {L : Nat} (hL : L ≤ 2560) : ∀ (m : Nat) (n : Int) (M : Mem), 0 ≤ n → n + m = 513 → 1 ≤ m → Rl n M → f_L_law_28 xs L m M (iZ (5 * n)) = some () := by
  intro m
  induction m with
  | zero => intro n M n0 hm h1; omega
  | succ m ih =>
    intro n M n0 hm h1 hR
    show (if ((nI L) - (5 : Int32)) < iZ (5 * n) then some () else _) = some ()
    rw [nI_iZ, zc_5, z_sub]
    by_cases c : (L : Int) - 5 < 5 * n
    · rw [if_pos (by rw [z_lt (by omega) (by omega) (by omega) (by omega)]; exact c)]
    · rw [if_neg (by rw [z_lt (by omega) (by omega) (by omega) (by omega)]; exact c), if_pos (of_eq_true (z_vin (by omega) (by omega) (by omega)))]
      have hk : ∀ M2, Rl (n + 1) M2 → f_L_law_28 xs L m M2 (iZ (5 * n + 5)) = some () := fun M2 h2 => by
        have := ih (n + 1) M2 (by omega) (by omega) (by omega) h2
        rw [show 5 * (n + 1) = 5 * n + 5 by omega] at this
        exact this
      exact ite_so (ca_0 hL n0 (by omega) hR (by omega) (by omega) hk) (ite_so (ca_1 hL n0 (by omega) hR (by omega) (by omega) hk) (ite_so (ca_2 hL n0 (by omega) hR (by omega) (by omega) hk) (ite_so (ca_3 hL n0 (by omega) hR (by omega) (by omega) hk) (ite_so (ca_4 hL n0 (by omega) hR (by omega) (by omega) hk) (ite_so (ca_5 hL n0 (by omega) hR (by omega) (by omega) hk) (ite_so (ca_6 hL n0 (by omega) hR (by omega) (by omega) hk) (ite_so (ca_7 hL n0 (by omega) hR (by omega) (by omega) hk) (ite_so (ca_8 hL n0 (by omega) hR (by omega) (by omega) hk) (ite_so (ca_9 hL n0 (by omega) hR (by omega) (by omega) hk) (ite_so (ca_10 hL n0 (by omega) hR (by omega) (by omega) hk) (ite_so (ca_11 hL n0 (by omega) hR (by omega) (by omega) hk) (ite_so (ca_12 hL n0 (by omega) hR (by omega) (by omega) hk) (ite_so (ca_13 hL n0 (by omega) hR (by omega) (by omega) hk) (ite_so (ca_14 hL n0 (by omega) hR (by omega) (by omega) hk) (ite_so (ca_15 hL n0 (by omega) hR (by omega) (by omega) hk) (ite_so (ca_16 hL n0 (by omega) hR (by omega) (by omega) hk) (ite_so (ca_17 hL n0 (by omega) hR (by omega) (by omega) hk) (ite_so (ca_18 hL n0 (by omega) hR (by omega) (by omega) hk) (ite_so (ca_19 hL n0 (by omega) hR (by omega) (by omega) hk) (ite_so (ca_20 hL n0 (by omega) hR (by omega) (by omega) hk) (ite_so (ca_21 hL n0 (by omega) hR (by omega) (by omega) hk) (ite_so (ca_22 hL n0 (by omega) hR (by omega) (by omega) hk) (ite_so (ca_23 hL n0 (by omega) hR (by omega) (by omega) hk) (ite_so (ca_24 hL n0 (by omega) hR (by omega) (by omega) hk) (ite_so (ca_25 hL n0 (by omega) hR (by omega) (by omega) hk) (ite_so (ca_26 hL n0 (by omega) hR (by omega) (by omega) hk) (ite_so (ca_27 hL n0 (by omega) hR (by omega) (by omega) hk) (ite_so (ca_28 hL n0 (by omega) hR (by omega) (by omega) hk) (ite_so (ca_29 hL n0 (by omega) hR (by omega) (by omega) hk) (ite_so (ca_30 hL n0 (by omega) hR (by omega) (by omega) hk) (ite_so (ca_31 hL n0 (by omega) hR (by omega) (by omega) hk) (ite_so (ca_32 hL n0 (by omega) hR (by omega) (by omega) hk) (ite_so (ca_33 hL n0 (by omega) hR (by omega) (by omega) hk) (ite_so (ca_34 hL n0 (by omega) hR (by omega) (by omega) hk) (ite_so (ca_35 hL n0 (by omega) hR (by omega) (by omega) hk) (ite_so (ca_36 hL n0 (by omega) hR (by omega) (by omega) hk) (ite_so (ca_37 hL n0 (by omega) hR (by omega) (by omega) hk) (ite_so (ca_38 hL n0 (by omega) hR (by omega) (by omega) hk) (ite_so (ca_39 hL n0 (by omega) hR (by omega) (by omega) hk) (ite_so (ca_40 hL n0 (by omega) hR (by omega) (by omega) hk) (ite_so (ca_41 hL n0 (by omega) hR (by omega) (by omega) hk) (ite_so (ca_42 hL n0 (by omega) hR (by omega) (by omega) hk) (ite_so (ca_43 hL n0 (by omega) hR (by omega) (by omega) hk) (ite_so (ca_44 hL n0 (by omega) hR (by omega) (by omega) hk) (ite_so (ca_45 hL n0 (by omega) hR (by omega) (by omega) hk) (ite_so (ca_46 hL n0 (by omega) hR (by omega) (by omega) hk) (ite_so (ca_47 hL n0 (by omega) hR (by omega) (by omega) hk) (ite_so (ca_48 hL n0 (by omega) hR (by omega) (by omega) hk) (ite_so (ca_49 hL n0 (by omega) hR (by omega) (by omega) hk) (ite_so (ca_50 hL n0 (by omega) hR (by omega) (by omega) hk) (ite_so (ca_51 hL n0 (by omega) hR (by omega) (by omega) hk) (ite_so (ca_52 hL n0 (by omega) hR (by omega) (by omega) hk) (ite_so (ca_53 hL n0 (by omega) hR (by omega) (by omega) hk) (ite_so (ca_54 hL n0 (by omega) hR (by omega) (by omega) hk) (ite_so (ca_55 hL n0 (by omega) hR (by omega) (by omega) hk) (ite_so (ca_56 hL n0 (by omega) hR (by omega) (by omega) hk) (ite_so (ca_57 hL n0 (by omega) hR (by omega) (by omega) hk) (ite_so (ca_58 hL n0 (by omega) hR (by omega) (by omega) hk) (ite_so (ca_59 hL n0 (by omega) hR (by omega) (by omega) hk) (by rw [law_89]; exact hk M (Rl.qt (Qt.rfl' M) hR)))))))))))))))))))))))))))))))))))))))))))))))))))))))))))))
/-- before the first call -/
theorem Rl_0 : Rl 0 M0 := by
  have hA : ∀ a i, a = 21 ∨ a = 24 ∨ a = 25 → M0 a i = rz (fun _ => 0) := fun a i h => by
    obtain rfl | rfl | rfl := h <;> rfl
  have hR : ∀ s, s ≤ 10 → Rw M0 s := fun s hs => by
    have h5 : ∀ k : Int, 0 ≤ k → k < 12 → ix (M0 5 s k.toNat) = 12 * s + k.toNat := fun k k0 k1 => nI_clamp (by omega)
    refine ⟨fun k k0 k1 => ?_, fun j k j0 j1 k0 k1 e => ?_⟩
    · rw [h5 k k0 k1]; omega
    · rw [h5 k k0 k1, h5 j j0 j1] at e; omega
  refine ⟨fun _ => 0, fun _ => 0, fun _ _ => 0, 0, 0, 0, ⟨?_, by omega, by omega, by omega, by omega, fun j j0 j1 => by omega, .inl rfl, fun h => by omega⟩, ⟨?_, hR, rfl, rfl, fun j j0 j1 => by omega, rfl, fun h => by omega⟩, ⟨hA 21 0 (by omega), hA 24 0 (by omega), ⟨fun _ => 0, hA 25 0 (by omega), fun i i0 i1 => by omega⟩, rfl, rfl⟩, ⟨0, fun _ => 0, by omega, by omega, rfl, rfl, fun j j0 j1 => by omega⟩, ⟨0, 16, fun _ => 0, by omega, by omega, by omega, .inl rfl, rfl, rfl, rfl, fun j j0 j1 => by omega⟩, rfl, rfl, rfl, rfl⟩
  · exact ⟨Int.le_refl 0, by decide, Int.le_refl 0, by decide, Int.le_refl 0, by decide, Int.le_refl 0, by decide, Int.le_refl 0, by decide, by decide, fun k k0 k1 => absurd k1 (by show ¬ k < (0 : Int); omega), fun k k0 k1 => rfl, fun k k0 k1 => absurd k1 (by show ¬ k < (0 : Int); omega), fun k k0 k1 => absurd k1 (by show ¬ k < (0 : Int); omega)⟩
  · exact ⟨rfl, rfl, rfl, rfl, rfl, rfl, rfl, rfl, fun k k0 k1 => absurd k1 (by show ¬ k < (0 : Int); omega), fun k k0 k1 => absurd k1 (by show ¬ k < (0 : Int); omega)⟩
theorem fn_law (xs : Nat → Int32) (L : Nat) (hL : L ≤ 2560) : f_L_law_28 xs L 513 M0 0 = some () := law_loop xs hL 513 0 M0 (by omega) (by omega) (by omega) Rl_0
