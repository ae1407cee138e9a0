set_option maxHeartbeats 4000000 in
set_option maxRecDepth 100000 in
theorem c_X1_init {Y : LY} {l : Launch} {P : Heap → Prop} (h : Nat) : Met l yX1_init (WS yX1_init cX1_init 1 none) { frames := 1, cells := 0, slots := 0, locals := 30 } (PcP Y P [.ref h]) (QvP Y P) 0 0 (AZ Y) := by
  refine met_mki (lv := [(0, .ref h)]) [.ref h] (by decide) rfl rfl (Nat.le_of_ble_eq_true rfl) (fun p e s m below meth c C0 hm hH ls hl => ?_)
  have hS : va_S (AZ Y) s.heap s.heap [] := va_S.rf
  obtain ⟨hx, hb, hr, hml, hown, hA, hlocks, hK, hZ⟩ := id C0
  refine lv_aload_n hx hb dX1_init_0 rfl (lv_at hl 0 rfl) ?_
  refine ws_obj C0 hl.1 zt_76 (Nat.le_of_ble_eq_true rfl) (Nat.le_of_ble_eq_true rfl) dX1_init_1 ?_
  exact hs_vret C0 hH hS (by decide) (by decide) dX1_init_4
set_option maxHeartbeats 4000000 in
set_option maxRecDepth 100000 in
theorem c_X3_init {Y : LY} {l : Launch} {P : Heap → Prop} (h : Nat) : Met l yX3_init (WS yX3_init cX3_init 1 none) { frames := 1, cells := 0, slots := 0, locals := 30 } (PcP Y P [.ref h]) (QvP Y P) 0 0 (AZ Y) := by
  refine met_mki (lv := [(0, .ref h)]) [.ref h] (by decide) rfl rfl (Nat.le_of_ble_eq_true rfl) (fun p e s m below meth c C0 hm hH ls hl => ?_)
  have hS : va_S (AZ Y) s.heap s.heap [] := va_S.rf
  obtain ⟨hx, hb, hr, hml, hown, hA, hlocks, hK, hZ⟩ := id C0
  refine lv_aload_n hx hb dX3_init_0 rfl (lv_at hl 0 rfl) ?_
  refine ws_obj C0 hl.1 zt_135 (Nat.le_of_ble_eq_true rfl) (Nat.le_of_ble_eq_true rfl) dX3_init_1 ?_
  exact hs_vret C0 hH hS (by decide) (by decide) dX3_init_4
def zI : Nat ⊕ Value := .inr (.int 0)
def nuL : Nat ⊕ Value := .inr .null
def lnkS : SE := .inl (5, [zI, zI, zI, zI, zI])
def parS : SE := .inl (7, [zI, zI, zI, zI, zI, zI, zI])
def netP (Y : LY) (p i o : Nat) : SE := if o = 0 then .inl (6, [.inl (p + 1), zI, zI]) else if o = 1 then .inr (.inr (YC Y 3, 20, fun j => if j < i then some (p + 2 + j) else none)) else lnkS
theorem netP_step {Y : LY} {p i k : Nat} {S : Nat → SE} (hk : k < p + 2 + i + 1) : (if k < p then S k else netP Y p (i + 1) (k - p)) = upS (upS (fun k => if k < p then S k else netP Y p i (k - p)) (p + 2 + i) lnkS) (p + 1) (.inr (.inr (YC Y 3, 20, fun j => if j = i then some (p + 2 + i) else if j < i then some (p + 2 + j) else none))) k := by
  unfold upS
  by_cases h1 : k = p + 1
  · subst h1
    rw [if_pos rfl, if_neg (by omega)]
    unfold netP
    rw [if_neg (by omega), if_pos (by omega)]
    have e : (fun j => if j < i + 1 then some (p + 2 + j) else none) = fun j => if j = i then some (p + 2 + i) else if j < i then some (p + 2 + j) else none := by
      funext j
      by_cases h2 : j = i
      · subst h2; rw [if_pos (by omega), if_pos rfl]
      · by_cases h3 : j < i
        · rw [if_pos (by omega), if_neg h2, if_pos h3]
        · rw [if_neg (by omega), if_neg h2, if_neg h3]
    rw [e]
  · rw [if_neg h1]
    by_cases h2 : k = p + 2 + i
    · subst h2
      rw [if_pos rfl, if_neg (by omega)]
      unfold netP
      rw [if_neg (by omega), if_neg (by omega)]
    · rw [if_neg h2]
      dsimp only
      by_cases h3 : k < p
      · rw [if_pos h3, if_pos h3]
      · rw [if_neg h3, if_neg h3]
        unfold netP
        by_cases h4 : k - p = 0
        · rw [if_pos h4, if_pos h4]
        · rw [if_neg h4, if_neg h4, if_neg (by omega), if_neg (by omega)]
set_option maxHeartbeats 4000000 in
set_option maxRecDepth 100000 in
theorem w_X2_init {Y : LY} {p : Program} {l : Launch} {e : Env} {s : State} {m : MethodId} {args : Array Value} {below : List Frame} {meth : Method} {c : Code} (C0 : BE Y p s m args meth c cX2_init 2 none RX2) (pl h : Nat) (ad : Nat → Nat) (S : Nat → SE) : ∀ (d i : Nat), i + d = 20 → ∀ (ad2 : Nat → Nat) (H : Heap) (locs : List Loc) (ls : Array Slot), WS9 Y (pl + 2 + i) ad2 (fun k => if k < pl then S k else netP Y pl i (k - pl)) H → (∀ k, k < pl + 1 → ad2 k = ad k) → h = ad pl → va_S (AZ Y) s.heap H locs → lv_has ls 2 [(1, .int (nI i)), (0, .ref h)] →
    W p l e { frames := 2, cells := 21, slots := 120, locals := 80 } s m args below meth c H locs (1 + i) (20 + 5 * i) (MQ below (QW Y (pl + 1) ad (pl + 22) (fun k => if k < pl then S k else netP Y pl 20 (k - pl))) args s 21 120 (AZ Y)) (F0 m 15 ls []) := by
  obtain ⟨hx, hb, hr, hml, hown, hA, hlocks, hK, hZ⟩ := id C0
  intro d
  induction d with
  | zero =>
    intro i hi ad2 H locs ls hW had hh hS hl
    obtain rfl : i = 20 := by omega
    refine lv_iload_n hx hb dX2_init_15 rfl (lv_at hl 0 rfl) ?_
    refine lv_bipush (v := (20 : Int32)) hx hb dX2_init_16 (by decide) ?_
    refine lv_icmp_ge (tgt := 40) hx hb dX2_init_18 (by decide) (fun hc => ?_) (fun hc => absurd (show (20 : Int32) ≤ nI 20 by decide) hc)
    exact ws_vret C0 hW had hS (by decide) (by decide) dX2_init_40
  | succ d ih =>
    intro i hi ad2 H locs ls hW had hh hS hl
    refine lv_iload_n hx hb dX2_init_15 rfl (lv_at hl 0 rfl) ?_
    refine lv_bipush (v := (20 : Int32)) hx hb dX2_init_16 (by decide) ?_
    refine lv_icmp_ge (tgt := 40) hx hb dX2_init_18 (by decide) (fun hc => absurd hc (show ¬ nI 20 ≤ nI i from nI_ge (by omega) (by omega))) (fun hc => ?_)
    have e0 : (fun k => if k < pl then S k else netP Y pl i (k - pl)) pl = .inl (6, [.inl (pl + 1), zI, zI]) := by simp [netP]
    have e1 : (fun k => if k < pl then S k else netP Y pl i (k - pl)) (pl + 1) = .inr (.inr (YC Y 3, 20, fun j => if j < i then some (pl + 2 + j) else none)) := by
      dsimp only
      rw [if_neg (by omega), show pl + 1 - pl = 1 by omega]
      rfl
    refine lv_aload_n hx hb dX2_init_21 rfl (lv_at hl 1 rfl) ?_
    refine ws_get C0 hW inAX2 (show CL[6]? = some (RX2, TX2, 3) from rfl) (k := pl) (by omega) (by rw [hh, had pl (by omega)]) e0 0 (by decide) zt_110 rfl (pl + 1) rfl dX2_init_22 ?_
    refine lv_iload_n hx hb dX2_init_25 rfl (lv_at hl 0 rfl) ?_
    refine ws_new C0 hW hS inAX1 tyX1 tyX1_ok zt_70 zt_72 zt_5 (show CL[5]? = some (RX1, TX1, 5) from rfl) [.int 0, .int 0, .int 0, .int 0, .int 0] (by decide) (by show 1 + i + 1 ≤ 21; omega) (by show 20 + 5 * i + 5 ≤ 120; omega) dX2_init_26 (fun q H hW hS => ?_)
    have had2 : ∀ k, k < pl + 2 + i → upA ad2 (pl + 2 + i) q k = ad2 k := fun k hk => upA_lt hk
    have eq : q = upA ad2 (pl + 2 + i) q (pl + 2 + i) := upA_eq.symm
    refine lv_dup hx hb dX2_init_29 rfl ?_
    refine hs_cv (hs_runIN C0 hW hS (c_X1_init q) (List.mem_of_getElem? (i := 0) rfl) ⟨⟨zt_5, zt_74, zt_75⟩, rfl, by decide, by decide, by decide +kernel⟩ ⟨rfl, rfl, Nat.le_of_ble_eq_true rfl, Nat.le_of_ble_eq_true rfl⟩ hl.1 (Nat.le_of_ble_eq_true rfl) ⟨by show 1 + i + 1 + 0 ≤ 21; omega, by show 20 + 5 * i + 5 + 0 ≤ 120; omega⟩ dX2_init_30) hS (fun H locs hW hS => ?_)
    refine ws_astq C0 hW hS (r := (RX1, TX1, 5)) (ci := 5) (t0 := 3) (k := pl + 1) (e9 := pl + 2 + i) (fs := [zI, zI, zI, zI, zI]) (i0 := i) (by omega) (had2 (pl + 1) (by omega)).symm (by rw [upS_ne (by omega)]; exact e1) rfl (by omega) eq (by rw [upS_eq]; rfl) rfl (nI_clamp (by omega)) (vp_in_nI (by omega) (by omega)) dX2_init_33 (fun H locs hW hS => ?_)
    refine lv_iinc (v := nI (i + 1)) (lv' := [(1, .int (nI (i + 1))), (0, .ref h)]) hx hb dX2_init_34 hl (k := 0) rfl (show nI i + Int32.ofInt 1 = nI (i + 1) from nI_1 i) (by decide) rfl (fun ls hl => ?_)
    refine lv_goto (tgt := 15) hx hb dX2_init_37 (by decide) ?_
    refine W.widen (k := 1 + (i + 1)) (n := 20 + 5 * (i + 1)) (by omega) (by omega) ?_
    refine ih (i + 1) (by omega) (upA ad2 (pl + 2 + i) q) H locs ls (ws_congr (fun k hk => netP_step hk) hW) (fun k hk => by rw [had2 k (by omega)]; exact had k hk) hh hS hl
set_option maxHeartbeats 4000000 in
set_option maxRecDepth 100000 in
theorem c_X2_init {Y : LY} {l : Launch} (pl h : Nat) (ad : Nat → Nat) (S : Nat → SE) (hh : h = ad pl) (hs : S pl = .inl (6, [nuL, zI, zI])) : Met l yX2_init (WS yX2_init cX2_init 2 none) { frames := 2, cells := 21, slots := 120, locals := 80 } (PcP Y (WS9 Y (pl + 1) ad S) [.ref h]) (QW Y (pl + 1) ad (pl + 22) (fun k => if k < pl then S k else netP Y pl 20 (k - pl))) 21 120 (AZ Y) := by
  refine met_mki (lv := [(0, .ref h)]) [.ref h] (by decide) rfl rfl (Nat.le_of_ble_eq_true rfl) (fun p e s m below meth c C0 hm hW ls hl => ?_)
  have hS : va_S (AZ Y) s.heap s.heap [] := va_S.rf
  obtain ⟨hx, hb, hr, hml, hown, hA, hlocks, hK, hZ⟩ := id C0
  refine lv_aload_n hx hb dX2_init_0 rfl (lv_at hl 0 rfl) ?_
  refine ws_obj C0 hl.1 zt_69 (Nat.le_of_ble_eq_true rfl) (Nat.le_of_ble_eq_true rfl) dX2_init_1 ?_
  refine lv_aload_n hx hb dX2_init_4 rfl (lv_at hl 0 rfl) ?_
  refine lv_bipush (v := (20 : Int32)) hx hb dX2_init_5 (by decide) ?_
  refine ws_newq C0 hW hS zt_70 (by decide) 3 rfl (by decide) (N := 20) (by decide) (by decide) (by decide) (by decide) dX2_init_7 (fun q H hW hS => ?_)
  refine ws_putF C0 hm hW hS inAX2 tyX2 tyX2_ok nmX2 (show CL[6]? = some (RX2, TX2, 3) from rfl) (k := pl) (fs := [nuL, zI, zI]) (by omega) (hh.trans (upA_lt (by omega)).symm) (by rw [upS_ne (by omega)]; exact hs) 0 (by decide) zt_110 rfl rfl rfl (ty := .array (.object "RiverParcelService$Link")) (pl + 1) (by omega) upA_eq.symm (by decide +kernel) rfl rfl (by decide) dX2_init_10 (fun H locs hW hS => ?_)
  refine lv_iconst (v := (0 : Int32)) hx hb dX2_init_13 (by decide) ?_
  refine lv_istore_n (lv' := [(1, .int (nI 0)), (0, .ref h)]) hx hb dX2_init_14 rfl hl (by decide) rfl (fun ls hl => ?_)
  refine w_X2_init C0 pl h ad S 20 0 rfl (upA ad (pl + 1) q) H locs ls (ws_congr (fun k hk => ?_) hW) (fun k hk => upA_lt hk) hh hS hl
  unfold upS
  by_cases h1 : k = pl
  · subst h1
    rw [if_neg (by omega), if_pos rfl, show k - k = 0 by omega]
    rfl
  · rw [if_neg h1]
    by_cases h2 : k = pl + 1
    · subst h2
      rw [if_pos rfl, if_neg (by omega), show pl + 1 - pl = 1 by omega]
      unfold netP
      rw [if_neg (by omega), if_pos rfl]
      simp
    · rw [if_neg h2, if_pos (by omega)]
