abbrev aS (c : ClassId) (n : Nat) : SE := .inr (.inl (ai c n (fun _ => 0)))
def wayT (Y : LY) (o : Nat) : SE := if o = 2 then aS (YC Y 1) 9 else aS (YC Y 0) 9
def wayO (p : Nat) : SE := .inl (10, [.inl (p + 1), .inl (p + 2), .inl (p + 3)])
def wayB (Y : LY) (p o : Nat) : SE := if o = 0 then wayO p else wayT Y o
def prgO (p : Nat) : SE := .inl (8, [.inl (p + 1), zI, .inl (p + 2), .inl (p + 3), zI, zI])
def prgT (Y : LY) (p o : Nat) : SE := if o = 1 then aS (YC Y 2) 60 else if o = 2 then aS (YC Y 0) 10 else if o = 3 then .inr (.inr (YC Y 6, 10, fun j => if j < 10 then some (p + 4 + j) else none)) else aS (YC Y 0) 4
def prgB (Y : LY) (p o : Nat) : SE := if o = 0 then prgO p else prgT Y p o
def sbO (p : Nat) : SE := .inl (1, [.inl (p + 1), zI, zI, zI])
def sbT (Y : LY) (_ : Nat) : SE := aS (YC Y 7) 16
def sbB (Y : LY) (p o : Nat) : SE := if o = 0 then sbO p else sbT Y o
set_option maxRecDepth 100000 in
def letF : Nat → Int32 := upd (upd (upd (upd (upd (upd (upd (upd (upd (upd (upd (upd (upd (upd (upd (upd (upd (upd (upd (upd (upd (upd (upd (upd (upd (upd (upd (upd (upd (upd (upd (upd (upd (upd (upd (upd (upd (upd (upd (upd (upd (upd (upd (upd (upd (upd (upd (upd (upd (upd (upd (upd (upd (upd (upd (upd (upd ((fun _ => (0 : Int32))) (ix (0 : Int32)) (112 : Int32)) (ix (1 : Int32)) (108 : Int32)) (ix (2 : Int32)) (97 : Int32)) (ix (3 : Int32)) (99 : Int32)) (ix (4 : Int32)) (101 : Int32)) (ix (5 : Int32)) (108 : Int32)) (ix (6 : Int32)) (105 : Int32)) (ix (7 : Int32)) (110 : Int32)) (ix (8 : Int32)) (107 : Int32)) (ix (9 : Int32)) (32 : Int32)) (ix (10 : Int32)) (98 : Int32)) (ix (11 : Int32)) (108 : Int32)) (ix (12 : Int32)) (111 : Int32)) (ix (13 : Int32)) (99 : Int32)) (ix (14 : Int32)) (107 : Int32)) (ix (15 : Int32)) (32 : Int32)) (ix (16 : Int32)) (111 : Int32)) (ix (17 : Int32)) (112 : Int32)) (ix (18 : Int32)) (101 : Int32)) (ix (19 : Int32)) (110 : Int32)) (ix (20 : Int32)) (32 : Int32)) (ix (21 : Int32)) (112 : Int32)) (ix (22 : Int32)) (111 : Int32)) (ix (23 : Int32)) (115 : Int32)) (ix (24 : Int32)) (116 : Int32)) (ix (25 : Int32)) (32 : Int32)) (ix (26 : Int32)) (115 : Int32)) (ix (27 : Int32)) (101 : Int32)) (ix (28 : Int32)) (110 : Int32)) (ix (29 : Int32)) (100 : Int32)) (ix (30 : Int32)) (32 : Int32)) (ix (31 : Int32)) (115 : Int32)) (ix (32 : Int32)) (116 : Int32)) (ix (33 : Int32)) (97 : Int32)) (ix (34 : Int32)) (109 : Int32)) (ix (35 : Int32)) (112 : Int32)) (ix (36 : Int32)) (32 : Int32)) (ix (37 : Int32)) (114 : Int32)) (ix (38 : Int32)) (101 : Int32)) (ix (39 : Int32)) (116 : Int32)) (ix (40 : Int32)) (117 : Int32)) (ix (41 : Int32)) (114 : Int32)) (ix (42 : Int32)) (110 : Int32)) (ix (43 : Int32)) (32 : Int32)) (ix (44 : Int32)) (100 : Int32)) (ix (45 : Int32)) (105 : Int32)) (ix (46 : Int32)) (115 : Int32)) (ix (47 : Int32)) (112 : Int32)) (ix (48 : Int32)) (97 : Int32)) (ix (49 : Int32)) (116 : Int32)) (ix (50 : Int32)) (99 : Int32)) (ix (51 : Int32)) (104 : Int32)) (ix (52 : Int32)) (104 : Int32)) (ix (53 : Int32)) (111 : Int32)) (ix (54 : Int32)) (117 : Int32)) (ix (55 : Int32)) (114 : Int32)) (ix (56 : Int32)) (115 : Int32)
def begF : Nat → Int32 := upd (upd (upd (upd (upd (upd (upd (upd (upd (upd (upd ((fun _ => (0 : Int32))) (ix (0 : Int32)) (0 : Int32)) (ix (1 : Int32)) (5 : Int32)) (ix (2 : Int32)) (10 : Int32)) (ix (3 : Int32)) (16 : Int32)) (ix (4 : Int32)) (21 : Int32)) (ix (5 : Int32)) (26 : Int32)) (ix (6 : Int32)) (31 : Int32)) (ix (7 : Int32)) (37 : Int32)) (ix (8 : Int32)) (44 : Int32)) (ix (9 : Int32)) (52 : Int32)) (ix (10 : Int32)) (57 : Int32)
def modO (p : Nat) : SE := .inl (12, [.inl (p + 1), .inl (p + 2), .inl (p + 3), .inl (p + 4), zI, .inl (p + 5), zI, .inr (.int (-1)), .inr (.int (-1)), zI, .inl (p + 6), zI, .inl (p + 7), .inl (p + 8), .inl (p + 9), zI, .inl (p + 10), .inl (p + 11), .inl (p + 12), zI, zI, zI, zI])
def modT (Y : LY) (o : Nat) : SE := if o = 1 then aS (YC Y 0) 192 else if o = 2 then aS (YC Y 0) 192 else if o = 3 then aS (YC Y 0) 192 else if o = 4 then aS (YC Y 0) 192 else if o = 5 then aS (YC Y 0) 1536 else if o = 6 then aS (YC Y 0) 60 else if o = 7 then aS (YC Y 0) 9 else if o = 8 then aS (YC Y 0) 12 else if o = 9 then aS (YC Y 0) 60 else if o = 10 then .inr (.inl (ai (YC Y 2) 57 letF)) else if o = 11 then .inr (.inl (ai (YC Y 0) 11 begF)) else aS (YC Y 0) 305
def modB (Y : LY) (p o : Nat) : SE := if o = 0 then modO p else modT Y o
/-! new int[n][k] -/
section RM9
variable {p : Program} {l : Launch} {e : Env} {R : Room} {s : State} {m : MethodId} {args : Array Value} {below : List Frame} {meth : Method} {c : Code} {H : Heap} {locs : List Loc} {cells slots : Nat} {Q : State → Prop}
variable {cc : ByteArray} {nL : Nat} {rt : Option FieldType} {own : String} {pc : Nat} {ls : Array Slot} {rest : List Value} {Y : LY} {n : Nat} {ad : Nat → Nat} {S : Nat → SE}
theorem ws_mna (C0 : BE Y p s m args meth c cc nL rt own) (hW : WS9 Y n ad S H) (hS : va_S (AZ Y) s.heap H locs) {index : Nat} (hcl : Cond.classLink own index "[[I" ∈ ALLW) (harr : Cond.arrayClass .int ∈ ALLW) (hcells : cells + (1 + 10) ≤ R.cells) (hslots : slots + (10 + 10 * 4) ≤ R.slots) (hdg : decode cc pc = .ok (.multianewarray index 2, 4))
    (kk : ∀ (ad2 : Nat → Nat) (H1 : Heap), (∀ k, k < n → ad2 k = ad k) → WS9 Y (n + 11) ad2 (fun k => if k < n then S k else if k = n then .inr (.inr (YC Y 6, 10, fun j => if j < 10 then some (n + 1 + j) else none)) else aS (YC Y 0) 4) H1 → va_S (AZ Y) s.heap H1 locs → W p l e R s m args below meth c H1 locs (cells + 1 + 10) (slots + 10 + 10 * 4) Q (F0 m (pc + 4) ls (.ref (ad2 n) :: rest))) : W p l e R s m args below meth c H locs cells slots Q (F0 m pc ls (.int 4 :: .int 10 :: rest)) := by
  obtain ⟨hx, hb, hr, hml, hown, hA, hlocks, hK, hZ⟩ := C0
  have h0 : s.vm.findClass (FieldType.array .int).toString = some (YC Y 0) := (hK.k.2 0 (YC Y 0, .int) rfl).2
  refine va_mna (X := WL n ad (fun k => res ad (S k))) (L := []) (f := fun _ => .inr (0, [])) (ty := .int) (cy := YC Y 0) (z := (4, .inl (fun _ => 0))) hx hb hown (hA _ hcl) hK.aoa (hA _ harr) h0 hK.k (by rw [show va_pl [] (fun _ => (.inr (0, []) : va_E)) = [] from rfl, List.append_nil]; exact hW.2.1) (by rw [show va_pl [] (fun _ => (.inr (0, []) : va_E)) = [] from rfl, List.append_nil]; exact hW.2.2) hS (fun q hq => Nat.le_trans hZ hq) (by decide) (by decide) (N' := 10) (K' := 4) (by decide) (by decide) (by decide) (by decide) (by decide) rfl rfl hcells hslots (fun c9 => arrV_new c9 4 (.int 0)) hdg (fun q r cA H1 hinj _ hKn hP1 hD1 hS1 => ?_)
  have e1 : cA = YC Y 6 := Option.some.inj ((hKn.2 10 (cA, .array .int) rfl).2.symm.trans (hK.k.2 6 (YC Y 6, .array .int) rfl).2)
  subst e1
  have had : ∀ k, k < n → (fun k => if k < n then ad k else if k = n then q else r (k - n - 1)) k = ad k := fun k hk => if_pos hk
  have eq9 : (fun k => if k < n then ad k else if k = n then q else r (k - n - 1)) n = q := by dsimp only; rw [if_neg (by omega), if_pos rfl]
  have er : ∀ j, (fun k => if k < n then ad k else if k = n then q else r (k - n - 1)) (n + 1 + j) = r j := fun j => by dsimp only; rw [if_neg (by omega), if_neg (by omega), show n + 1 + j - n - 1 = j by omega]
  generalize hg : (fun k => if k < n then ad k else if k = n then q else r (k - n - 1)) = ad2 at had eq9 er
  have e : WL (n + 11) ad2 (fun k => res ad2 ((fun k => if k < n then S k else if k = n then .inr (.inr (YC Y 6, 10, fun j => if j < 10 then some (n + 1 + j) else none)) else aS (YC Y 0) 4) k)) = (WL n ad (fun k => res ad (S k)) ++ [(q, .inl (YC Y 6, 10, .inr (.inr (.inr (.inr (fun i => if i < 10 then some (r i) else none))))))]) ++ va_pl ([] ++ (List.range 10).map r) (vr_up (fun _ => .inr (0, [])) ((List.range 10).map r) (.inl (YC Y 0, (4, .inl (fun _ => 0))))) := by
    unfold WL
    rw [show n + 11 = (n + 1) + 10 from rfl, List.range_add, List.map_append, List.range_succ, List.map_append]
    congr 1
    · congr 1
      · apply List.map_congr_left
        intro k hk
        have hk := List.mem_range.mp hk
        rw [had k hk]
        dsimp only
        rw [if_pos hk, res_ext had (hW.1 k hk)]
      · show [(ad2 n, res ad2 _)] = _
        dsimp only
        rw [eq9, if_neg (by omega), if_pos rfl]
        have e2 : (fun k => ((fun j => if j < 10 then some (n + 1 + j) else none) k).map ad2) = fun i => if i < 10 then some (r i) else none := by
          funext j
          dsimp only
          by_cases hj : j < 10
          · rw [if_pos hj, if_pos hj]; exact congrArg some (er j)
          · rw [if_neg hj, if_neg hj]; rfl
        show [(q, aq (YC Y 6) 10 (fun k => ((fun j => if j < 10 then some (n + 1 + j) else none) k).map ad2))] = _
        rw [e2]
    · unfold va_pl
      rw [List.nil_append, List.map_map, List.map_map]
      apply List.map_congr_left
      intro j hj
      show (ad2 (n + 1 + j), res ad2 _) = (r j, _)
      rw [er j, vr_up_in (List.mem_map.mpr ⟨j, hj, rfl⟩)]
      dsimp only
      rw [if_neg (by omega), if_neg (by omega)]
      rfl
  have hk9 := kk ad2 H1 had ⟨fun k hk => ?_, by rw [e]; exact hP1, by rw [e]; exact hD1⟩ hS1
  · rw [eq9] at hk9
    exact hk9
  · dsimp only
    by_cases h1 : k < n
    · rw [if_pos h1]; exact scp_up (by omega) (hW.1 k h1)
    · rw [if_neg h1]
      by_cases h2 : k = n
      · rw [if_pos h2]
        intro j p9 h9
        dsimp only at h9
        split at h9
        · cases h9; omega
        · cases h9
      · rw [if_neg h2]; trivial
end RM9
set_option maxHeartbeats 4000000 in
set_option maxRecDepth 100000 in
theorem c_X6_init {Y : LY} {l : Launch} (pl h : Nat) (ad : Nat → Nat) (S : Nat → SE) (hh : h = ad pl) (hs : S pl = .inl (10, [nuL, nuL, nuL])) : Met l yX6_init (WS yX6_init cX6_init 1 none) { frames := 1, cells := 3, slots := 27, locals := 40 } (PcP Y (WS9 Y (pl + 1) ad S) [.ref h]) (QW Y (pl + 1) ad (pl + 4) (fun k => if k < pl then S k else wayB Y pl (k - pl))) 3 27 (AZ Y) := by
  refine met_mki (lv := [(0, .ref h)]) [.ref h] (by decide) rfl rfl (Nat.le_of_ble_eq_true rfl) (fun p e s m below meth c C0 hm hW ls hl => ?_)
  have hS : va_S (AZ Y) s.heap s.heap [] := va_S.rf
  obtain ⟨hx, hb, hr, hml, hown, hA, hlocks, hK, hZ⟩ := id C0
  have hW := ws_congr (nf_new (T := wayT Y) hs) hW
  have had : ∀ k, k < pl + 1 → ad k = ad k := fun _ _ => rfl
  obtain ⟨ad0, e0⟩ : ∃ z, z = ad := ⟨_, rfl⟩
  refine lv_aload_n hx hb dX6_init_0 rfl (lv_at hl 0 rfl) ?_
  refine ws_obj C0 hl.1 zt_45 (Nat.le_of_ble_eq_true rfl) (Nat.le_of_ble_eq_true rfl) dX6_init_1 ?_
  refine lv_aload_n hx hb dX6_init_4 rfl (lv_at hl 0 rfl) ?_
  refine lv_bipush (v := (9 : Int32)) hx hb dX6_init_5 (by decide) ?_
  refine ws_newa C0 hW hS (atype := .int) (ty := .int) zt_56 rfl 0 rfl (fun _ _ h => h) (9, .inl (fun _ => 0)) (fun _ => rfl) (by decide) (by decide) (by decide) (by decide) (by decide) dX6_init_7 (fun q1 H hW hS => ?_)
  have hW := ws_congr (nf_push (by omega) (by first | rfl | (rw [show pl + 1 - pl = 1 by omega]; rfl))) hW
  have hh : h = upA ad (pl + 1) q1 (pl) := by rw [upA_lt (by omega)]; exact hh
  have hq1 : q1 = upA ad (pl + 1) q1 (pl + 1) := upA_eq.symm
  have had : ∀ k, k < pl + 1 → upA ad (pl + 1) q1 k = ad k := fun k hk => (upA_lt (by omega)).trans (had k hk)
  generalize upA ad (pl + 1) q1 = ad1 at *
  refine ws_putF C0 hm hW hS inAX6 tyX6 tyX6_ok nmX6 (show CL[10]? = some (RX6, TX6, 3) from rfl) (k := pl) (fs := [nuL, nuL, nuL]) (by omega) hh nf_at 0 (by decide) zt_46 rfl rfl rfl (ty := .array .int) (pl + 1) (by omega) hq1 (by decide +kernel) rfl rfl (Nat.le_of_ble_eq_true rfl) dX6_init_9 (fun H locs hW hS => ?_)
  rw [nf_put] at hW
  refine lv_aload_n hx hb dX6_init_12 rfl (lv_at hl 0 rfl) ?_
  refine lv_bipush (v := (9 : Int32)) hx hb dX6_init_13 (by decide) ?_
  refine ws_newa C0 hW hS (atype := .boolean) (ty := .boolean) zt_57 rfl 1 rfl (fun _ _ h => h) (9, .inl (fun _ => 0)) (fun _ => rfl) (by decide) (by decide) (by decide) (by decide) (by decide) dX6_init_15 (fun q2 H hW hS => ?_)
  have hW := ws_congr (nf_push (by omega) (by first | rfl | (rw [show pl + 2 - pl = 2 by omega]; rfl))) hW
  have hh : h = upA ad1 (pl + 2) q2 (pl) := by rw [upA_lt (by omega)]; exact hh
  have hq2 : q2 = upA ad1 (pl + 2) q2 (pl + 2) := upA_eq.symm
  have had : ∀ k, k < pl + 1 → upA ad1 (pl + 2) q2 k = ad k := fun k hk => (upA_lt (by omega)).trans (had k hk)
  generalize upA ad1 (pl + 2) q2 = ad2 at *
  refine ws_putF C0 hm hW hS inAX6 tyX6 tyX6_ok nmX6 (show CL[10]? = some (RX6, TX6, 3) from rfl) (k := pl) (fs := [.inl (pl + 1), nuL, nuL]) (by omega) hh nf_at 1 (by decide) zt_47 rfl rfl rfl (ty := .array .boolean) (pl + 2) (by omega) hq2 (by decide +kernel) rfl rfl (Nat.le_of_ble_eq_true rfl) dX6_init_17 (fun H locs hW hS => ?_)
  rw [nf_put] at hW
  refine lv_aload_n hx hb dX6_init_20 rfl (lv_at hl 0 rfl) ?_
  refine lv_bipush (v := (9 : Int32)) hx hb dX6_init_21 (by decide) ?_
  refine ws_newa C0 hW hS (atype := .int) (ty := .int) zt_56 rfl 0 rfl (fun _ _ h => h) (9, .inl (fun _ => 0)) (fun _ => rfl) (by decide) (by decide) (by decide) (by decide) (by decide) dX6_init_23 (fun q3 H hW hS => ?_)
  have hW := ws_congr (nf_push (by omega) (by first | rfl | (rw [show pl + 3 - pl = 3 by omega]; rfl))) hW
  have hh : h = upA ad2 (pl + 3) q3 (pl) := by rw [upA_lt (by omega)]; exact hh
  have hq3 : q3 = upA ad2 (pl + 3) q3 (pl + 3) := upA_eq.symm
  have had : ∀ k, k < pl + 1 → upA ad2 (pl + 3) q3 k = ad k := fun k hk => (upA_lt (by omega)).trans (had k hk)
  generalize upA ad2 (pl + 3) q3 = ad3 at *
  refine ws_putF C0 hm hW hS inAX6 tyX6 tyX6_ok nmX6 (show CL[10]? = some (RX6, TX6, 3) from rfl) (k := pl) (fs := [.inl (pl + 1), .inl (pl + 2), nuL]) (by omega) hh nf_at 2 (by decide) zt_48 rfl rfl rfl (ty := .array .int) (pl + 3) (by omega) hq3 (by decide +kernel) rfl rfl (Nat.le_of_ble_eq_true rfl) dX6_init_25 (fun H locs hW hS => ?_)
  rw [nf_put] at hW
  exact ws_vret C0 (ws_congr (fun k _ => nf_to (B := wayB Y pl) rfl (fun j hj => if_neg (by omega)) k) hW) had hS (by decide) (by decide) dX6_init_28
set_option maxHeartbeats 4000000 in
set_option maxRecDepth 100000 in
theorem c_X4_init {Y : LY} {l : Launch} (pl h : Nat) (ad : Nat → Nat) (S : Nat → SE) (hh : h = ad pl) (hs : S pl = .inl (8, [nuL, zI, nuL, nuL, zI, zI])) : Met l yX4_init (WS yX4_init cX4_init 1 none) { frames := 1, cells := 13, slots := 120, locals := 40 } (PcP Y (WS9 Y (pl + 1) ad S) [.ref h]) (QW Y (pl + 1) ad (pl + 14) (fun k => if k < pl then S k else prgB Y pl (k - pl))) 13 120 (AZ Y) := by
  refine met_mki (lv := [(0, .ref h)]) [.ref h] (by decide) rfl rfl (Nat.le_of_ble_eq_true rfl) (fun p e s m below meth c C0 hm hW ls hl => ?_)
  have hS : va_S (AZ Y) s.heap s.heap [] := va_S.rf
  obtain ⟨hx, hb, hr, hml, hown, hA, hlocks, hK, hZ⟩ := id C0
  have hW := ws_congr (nf_new (T := prgT Y pl) hs) hW
  have had : ∀ k, k < pl + 1 → ad k = ad k := fun _ _ => rfl
  obtain ⟨ad0, e0⟩ : ∃ z, z = ad := ⟨_, rfl⟩
  refine lv_aload_n hx hb dX4_init_0 rfl (lv_at hl 0 rfl) ?_
  refine ws_obj C0 hl.1 zt_233 (Nat.le_of_ble_eq_true rfl) (Nat.le_of_ble_eq_true rfl) dX4_init_1 ?_
  refine lv_aload_n hx hb dX4_init_4 rfl (lv_at hl 0 rfl) ?_
  refine lv_bipush (v := (60 : Int32)) hx hb dX4_init_5 (by decide) ?_
  refine ws_newa C0 hW hS (atype := .char) (ty := .char) zt_258 rfl 2 rfl (fun _ _ h => h) (60, .inl (fun _ => 0)) (fun _ => rfl) (by decide) (by decide) (by decide) (by decide) (by decide) dX4_init_7 (fun q1 H hW hS => ?_)
  have hW := ws_congr (nf_push (by omega) (by first | rfl | (rw [show pl + 1 - pl = 1 by omega]; rfl))) hW
  have hh : h = upA ad (pl + 1) q1 (pl) := by rw [upA_lt (by omega)]; exact hh
  have hq1 : q1 = upA ad (pl + 1) q1 (pl + 1) := upA_eq.symm
  have had : ∀ k, k < pl + 1 → upA ad (pl + 1) q1 k = ad k := fun k hk => (upA_lt (by omega)).trans (had k hk)
  generalize upA ad (pl + 1) q1 = ad1 at *
  refine ws_putF C0 hm hW hS inAX4 tyX4 tyX4_ok nmX4 (show CL[8]? = some (RX4, TX4, 6) from rfl) (k := pl) (fs := [nuL, zI, nuL, nuL, zI, zI]) (by omega) hh nf_at 0 (by decide) zt_236 rfl rfl rfl (ty := .array .char) (pl + 1) (by omega) hq1 (by decide +kernel) rfl rfl (Nat.le_of_ble_eq_true rfl) dX4_init_9 (fun H locs hW hS => ?_)
  rw [nf_put] at hW
  refine lv_aload_n hx hb dX4_init_12 rfl (lv_at hl 0 rfl) ?_
  refine lv_bipush (v := (10 : Int32)) hx hb dX4_init_13 (by decide) ?_
  refine ws_newa C0 hW hS (atype := .int) (ty := .int) zt_56 rfl 0 rfl (fun _ _ h => h) (10, .inl (fun _ => 0)) (fun _ => rfl) (by decide) (by decide) (by decide) (by decide) (by decide) dX4_init_15 (fun q2 H hW hS => ?_)
  have hW := ws_congr (nf_push (by omega) (by first | rfl | (rw [show pl + 2 - pl = 2 by omega]; rfl))) hW
  have hh : h = upA ad1 (pl + 2) q2 (pl) := by rw [upA_lt (by omega)]; exact hh
  have hq2 : q2 = upA ad1 (pl + 2) q2 (pl + 2) := upA_eq.symm
  have had : ∀ k, k < pl + 1 → upA ad1 (pl + 2) q2 k = ad k := fun k hk => (upA_lt (by omega)).trans (had k hk)
  generalize upA ad1 (pl + 2) q2 = ad2 at *
  refine ws_putF C0 hm hW hS inAX4 tyX4 tyX4_ok nmX4 (show CL[8]? = some (RX4, TX4, 6) from rfl) (k := pl) (fs := [.inl (pl + 1), zI, nuL, nuL, zI, zI]) (by omega) hh nf_at 2 (by decide) zt_239 rfl rfl rfl (ty := .array .int) (pl + 2) (by omega) hq2 (by decide +kernel) rfl rfl (Nat.le_of_ble_eq_true rfl) dX4_init_17 (fun H locs hW hS => ?_)
  rw [nf_put] at hW
  refine lv_aload_n hx hb dX4_init_20 rfl (lv_at hl 0 rfl) ?_
  refine lv_bipush (v := (10 : Int32)) hx hb dX4_init_21 (by decide) ?_
  refine lv_iconst (v := (4 : Int32)) hx hb dX4_init_23 (by decide) ?_
  refine ws_mna C0 hW hS zt_234 zt_56 (by decide) (by decide) dX4_init_24 (fun adm H hadm hW hS => ?_)
  have hW := ws_congr (S2 := nf S pl (.inl (8, [.inl (pl + 1), zI, .inl (pl + 2), nuL, zI, zI])) (prgT Y pl)) (fun k hk => ?_) hW
  rotate_left
  · by_cases h1 : k < pl + 3
    · rw [if_pos h1]; rfl
    · rw [if_neg h1, nf_T (by omega)]
      by_cases h2 : k = pl + 3
      · subst h2; rw [if_pos rfl, show pl + 3 - pl = 3 by omega]; rfl
      · rw [if_neg h2]
        unfold prgT
        rw [if_neg (by omega), if_neg (by omega), if_neg (by omega)]
  have hh : h = adm (pl) := by rw [hadm _ (by omega)]; exact hh
  have hq3 : adm (pl + 3) = adm (pl + 3) := rfl
  have had : ∀ k, k < pl + 1 → adm k = ad k := fun k hk => by rw [hadm k (by omega)]; exact had k hk
  refine ws_putF C0 hm hW hS inAX4 tyX4 tyX4_ok nmX4 (show CL[8]? = some (RX4, TX4, 6) from rfl) (k := pl) (fs := [.inl (pl + 1), zI, .inl (pl + 2), nuL, zI, zI]) (by omega) hh nf_at 3 (by decide) zt_240 rfl rfl rfl (ty := .array (.array .int)) (pl + 3) (by omega) hq3 (by decide +kernel) rfl rfl (Nat.le_of_ble_eq_true rfl) dX4_init_28 (fun H locs hW hS => ?_)
  rw [nf_put] at hW
  exact ws_vret C0 (ws_congr (fun k _ => nf_to (B := prgB Y pl) rfl (fun j hj => if_neg (by omega)) k) hW) had hS (by decide) (by decide) dX4_init_31
set_option maxHeartbeats 4000000 in
set_option maxRecDepth 100000 in
theorem c_J5_init_d00df {Y : LY} {l : Launch} (pl h : Nat) (ad : Nat → Nat) (S : Nat → SE) (hh : h = ad pl) (hs : S pl = .inl (1, [nuL, zI, zI, zI])) : Met l yJ5_init_d00df (WS yJ5_init_d00df cJ5_init_d00df 2 none) { frames := 1, cells := 1, slots := 16, locals := 40 } (PcP Y (WS9 Y (pl + 1) ad S) [.ref h, .int 16]) (QW Y (pl + 1) ad (pl + 2) (fun k => if k < pl then S k else sbB Y pl (k - pl))) 1 16 (AZ Y) := by
  refine met_mki (lv := [(0, .ref h), (1, .int 16)]) [.ref h, .int 16] (by decide) rfl rfl (Nat.le_of_ble_eq_true rfl) (fun p e s m below meth c C0 hm hW ls hl => ?_)
  have hS : va_S (AZ Y) s.heap s.heap [] := va_S.rf
  obtain ⟨hx, hb, hr, hml, hown, hA, hlocks, hK, hZ⟩ := id C0
  have hW := ws_congr (nf_new (T := sbT Y) hs) hW
  have had : ∀ k, k < pl + 1 → ad k = ad k := fun _ _ => rfl
  obtain ⟨ad0, e0⟩ : ∃ z, z = ad := ⟨_, rfl⟩
  refine lv_aload_n hx hb dJ5_init_d00df_0 rfl (lv_at hl 0 rfl) ?_
  refine ws_obj C0 hl.1 zt_267 (Nat.le_of_ble_eq_true rfl) (Nat.le_of_ble_eq_true rfl) dJ5_init_d00df_1 ?_
  refine va_gets hx hb hK.z hS hown (hA _ zt_268) (fun _ h => h) dJ5_init_d00df_4 ?_
  refine lv_if_eq (tgt := 25) hx hb dJ5_init_d00df_7 (by decide) (fun hc => absurd hc (by decide)) (fun _ => ?_)
  refine lv_aload_n hx hb dJ5_init_d00df_10 rfl (lv_at hl 0 rfl) ?_
  refine lv_iload_n hx hb dJ5_init_d00df_11 rfl (lv_at hl 1 rfl) ?_
  refine ws_newa C0 hW hS (atype := .byte) (ty := .byte) zt_291 rfl 7 rfl (fun _ _ h => h) (16, .inl (fun _ => 0)) (fun _ => rfl) (by decide) (by decide) (by decide) (by decide) (by decide) dJ5_init_d00df_12 (fun q1 H hW hS => ?_)
  have hW := ws_congr (nf_push (by omega) (by first | rfl | (rw [show pl + 1 - pl = 1 by omega]; rfl))) hW
  have hh : h = upA ad (pl + 1) q1 (pl) := by rw [upA_lt (by omega)]; exact hh
  have hq1 : q1 = upA ad (pl + 1) q1 (pl + 1) := upA_eq.symm
  have had : ∀ k, k < pl + 1 → upA ad (pl + 1) q1 k = ad k := fun k hk => (upA_lt (by omega)).trans (had k hk)
  generalize upA ad (pl + 1) q1 = ad1 at *
  refine ws_putR C0 hW hS inAJ4 tyJ4 tyJ4_ok nmJ4 (show CL[1]? = some (RJ4, TJ4, 4) from rfl) (k := pl) (fs := [nuL, zI, zI, zI]) (by omega) hh nf_at 0 (by decide) zt_277 rfl rfl (ty := .array .byte) (pl + 1) (by omega) hq1 (by decide +kernel) rfl rfl (Nat.le_of_ble_eq_true rfl) dJ5_init_d00df_14 (fun H locs hW hS => ?_)
  rw [nf_put] at hW
  refine lv_aload_n hx hb dJ5_init_d00df_17 rfl (lv_at hl 0 rfl) ?_
  refine lv_iconst (v := (0 : Int32)) hx hb dJ5_init_d00df_18 (by decide) ?_
  refine ws_putI C0 hW hS inAJ4 tyJ4 tyJ4_ok nmJ4 (show CL[1]? = some (RJ4, TJ4, 4) from rfl) (k := pl) (fs := [.inl (pl + 1), zI, zI, zI]) (by omega) hh nf_at 1 (by decide) zt_278 rfl rfl (ty := .byte) (v := (0 : Int32)) (by decide +kernel) (by decide) (by decide) (Nat.le_of_ble_eq_true rfl) dJ5_init_d00df_19 (fun H locs hW hS => ?_)
  rw [nf_put] at hW
  refine lv_goto (tgt := 38) hx hb dJ5_init_d00df_22 (by decide) ?_
  exact ws_vret C0 (ws_congr (fun k _ => nf_to (B := sbB Y pl) rfl (fun j hj => if_neg (by omega)) k) hW) had hS (by decide) (by decide) dJ5_init_d00df_38
set_option maxHeartbeats 4000000 in
set_option maxRecDepth 100000 in
theorem c_X8_init {Y : LY} {l : Launch} (pl h : Nat) (ad : Nat → Nat) (S : Nat → SE) (hh : h = ad pl) (hs : S pl = .inl (12, [nuL, nuL, nuL, nuL, zI, nuL, zI, zI, zI, zI, nuL, zI, nuL, nuL, nuL, zI, nuL, nuL, nuL, zI, zI, zI, zI])) : Met l yX8_init (WS yX8_init cX8_init 1 none) { frames := 1, cells := 12, slots := 2818, locals := 60 } (PcP Y (WS9 Y (pl + 1) ad S) [.ref h]) (QW Y (pl + 1) ad (pl + 13) (fun k => if k < pl then S k else modB Y pl (k - pl))) 12 2818 (AZ Y) := by
  refine met_mki (lv := [(0, .ref h)]) [.ref h] (by decide) rfl rfl (Nat.le_of_ble_eq_true rfl) (fun p e s m below meth c C0 hm hW ls hl => ?_)
  have hS : va_S (AZ Y) s.heap s.heap [] := va_S.rf
  obtain ⟨hx, hb, hr, hml, hown, hA, hlocks, hK, hZ⟩ := id C0
  have hW := ws_congr (nf_new (T := modT Y) hs) hW
  have had : ∀ k, k < pl + 1 → ad k = ad k := fun _ _ => rfl
  obtain ⟨ad0, e0⟩ : ∃ z, z = ad := ⟨_, rfl⟩
  refine lv_aload_n hx hb dX8_init_0 rfl (lv_at hl 0 rfl) ?_
  refine ws_obj C0 hl.1 zt_1550 (Nat.le_of_ble_eq_true rfl) (Nat.le_of_ble_eq_true rfl) dX8_init_1 ?_
  refine lv_aload_n hx hb dX8_init_4 rfl (lv_at hl 0 rfl) ?_
  refine lv_sipush (v := (192 : Int32)) hx hb dX8_init_5 (by decide) ?_
  refine ws_newa C0 hW hS (atype := .int) (ty := .int) zt_56 rfl 0 rfl (fun _ _ h => h) (192, .inl (fun _ => 0)) (fun _ => rfl) (by decide) (by decide) (by decide) (by decide) (by decide) dX8_init_8 (fun q1 H hW hS => ?_)
  have hW := ws_congr (nf_push (by omega) (by first | rfl | (rw [show pl + 1 - pl = 1 by omega]; rfl))) hW
  have hh : h = upA ad (pl + 1) q1 (pl) := by rw [upA_lt (by omega)]; exact hh
  have hq1 : q1 = upA ad (pl + 1) q1 (pl + 1) := upA_eq.symm
  have had : ∀ k, k < pl + 1 → upA ad (pl + 1) q1 k = ad k := fun k hk => (upA_lt (by omega)).trans (had k hk)
  generalize upA ad (pl + 1) q1 = ad1 at *
  refine ws_putF C0 hm hW hS inAX8 tyX8 tyX8_ok nmX8 (show CL[12]? = some (RX8, TX8, 23) from rfl) (k := pl) (fs := [nuL, nuL, nuL, nuL, zI, nuL, zI, zI, zI, zI, nuL, zI, nuL, nuL, nuL, zI, nuL, nuL, nuL, zI, zI, zI, zI]) (by omega) hh nf_at 0 (by decide) zt_1551 rfl rfl rfl (ty := .array .int) (pl + 1) (by omega) hq1 (by decide +kernel) rfl rfl (Nat.le_of_ble_eq_true rfl) dX8_init_10 (fun H locs hW hS => ?_)
  rw [nf_put] at hW
  refine lv_aload_n hx hb dX8_init_13 rfl (lv_at hl 0 rfl) ?_
  refine lv_sipush (v := (192 : Int32)) hx hb dX8_init_14 (by decide) ?_
  refine ws_newa C0 hW hS (atype := .int) (ty := .int) zt_56 rfl 0 rfl (fun _ _ h => h) (192, .inl (fun _ => 0)) (fun _ => rfl) (by decide) (by decide) (by decide) (by decide) (by decide) dX8_init_17 (fun q2 H hW hS => ?_)
  have hW := ws_congr (nf_push (by omega) (by first | rfl | (rw [show pl + 2 - pl = 2 by omega]; rfl))) hW
  have hh : h = upA ad1 (pl + 2) q2 (pl) := by rw [upA_lt (by omega)]; exact hh
  have hq2 : q2 = upA ad1 (pl + 2) q2 (pl + 2) := upA_eq.symm
  have had : ∀ k, k < pl + 1 → upA ad1 (pl + 2) q2 k = ad k := fun k hk => (upA_lt (by omega)).trans (had k hk)
  generalize upA ad1 (pl + 2) q2 = ad2 at *
  refine ws_putF C0 hm hW hS inAX8 tyX8 tyX8_ok nmX8 (show CL[12]? = some (RX8, TX8, 23) from rfl) (k := pl) (fs := [.inl (pl + 1), nuL, nuL, nuL, zI, nuL, zI, zI, zI, zI, nuL, zI, nuL, nuL, nuL, zI, nuL, nuL, nuL, zI, zI, zI, zI]) (by omega) hh nf_at 1 (by decide) zt_1552 rfl rfl rfl (ty := .array .int) (pl + 2) (by omega) hq2 (by decide +kernel) rfl rfl (Nat.le_of_ble_eq_true rfl) dX8_init_19 (fun H locs hW hS => ?_)
  rw [nf_put] at hW
  refine lv_aload_n hx hb dX8_init_22 rfl (lv_at hl 0 rfl) ?_
  refine lv_sipush (v := (192 : Int32)) hx hb dX8_init_23 (by decide) ?_
  refine ws_newa C0 hW hS (atype := .int) (ty := .int) zt_56 rfl 0 rfl (fun _ _ h => h) (192, .inl (fun _ => 0)) (fun _ => rfl) (by decide) (by decide) (by decide) (by decide) (by decide) dX8_init_26 (fun q3 H hW hS => ?_)
  have hW := ws_congr (nf_push (by omega) (by first | rfl | (rw [show pl + 3 - pl = 3 by omega]; rfl))) hW
  have hh : h = upA ad2 (pl + 3) q3 (pl) := by rw [upA_lt (by omega)]; exact hh
  have hq3 : q3 = upA ad2 (pl + 3) q3 (pl + 3) := upA_eq.symm
  have had : ∀ k, k < pl + 1 → upA ad2 (pl + 3) q3 k = ad k := fun k hk => (upA_lt (by omega)).trans (had k hk)
  generalize upA ad2 (pl + 3) q3 = ad3 at *
  refine ws_putF C0 hm hW hS inAX8 tyX8 tyX8_ok nmX8 (show CL[12]? = some (RX8, TX8, 23) from rfl) (k := pl) (fs := [.inl (pl + 1), .inl (pl + 2), nuL, nuL, zI, nuL, zI, zI, zI, zI, nuL, zI, nuL, nuL, nuL, zI, nuL, nuL, nuL, zI, zI, zI, zI]) (by omega) hh nf_at 2 (by decide) zt_1553 rfl rfl rfl (ty := .array .int) (pl + 3) (by omega) hq3 (by decide +kernel) rfl rfl (Nat.le_of_ble_eq_true rfl) dX8_init_28 (fun H locs hW hS => ?_)
  rw [nf_put] at hW
  refine lv_aload_n hx hb dX8_init_31 rfl (lv_at hl 0 rfl) ?_
  refine lv_sipush (v := (192 : Int32)) hx hb dX8_init_32 (by decide) ?_
  refine ws_newa C0 hW hS (atype := .int) (ty := .int) zt_56 rfl 0 rfl (fun _ _ h => h) (192, .inl (fun _ => 0)) (fun _ => rfl) (by decide) (by decide) (by decide) (by decide) (by decide) dX8_init_35 (fun q4 H hW hS => ?_)
  have hW := ws_congr (nf_push (by omega) (by first | rfl | (rw [show pl + 4 - pl = 4 by omega]; rfl))) hW
  have hh : h = upA ad3 (pl + 4) q4 (pl) := by rw [upA_lt (by omega)]; exact hh
  have hq4 : q4 = upA ad3 (pl + 4) q4 (pl + 4) := upA_eq.symm
  have had : ∀ k, k < pl + 1 → upA ad3 (pl + 4) q4 k = ad k := fun k hk => (upA_lt (by omega)).trans (had k hk)
  generalize upA ad3 (pl + 4) q4 = ad4 at *
  refine ws_putF C0 hm hW hS inAX8 tyX8 tyX8_ok nmX8 (show CL[12]? = some (RX8, TX8, 23) from rfl) (k := pl) (fs := [.inl (pl + 1), .inl (pl + 2), .inl (pl + 3), nuL, zI, nuL, zI, zI, zI, zI, nuL, zI, nuL, nuL, nuL, zI, nuL, nuL, nuL, zI, zI, zI, zI]) (by omega) hh nf_at 3 (by decide) zt_1554 rfl rfl rfl (ty := .array .int) (pl + 4) (by omega) hq4 (by decide +kernel) rfl rfl (Nat.le_of_ble_eq_true rfl) dX8_init_37 (fun H locs hW hS => ?_)
  rw [nf_put] at hW
  refine lv_aload_n hx hb dX8_init_40 rfl (lv_at hl 0 rfl) ?_
  refine lv_sipush (v := (1536 : Int32)) hx hb dX8_init_41 (by decide) ?_
  refine ws_newa C0 hW hS (atype := .int) (ty := .int) zt_56 rfl 0 rfl (fun _ _ h => h) (1536, .inl (fun _ => 0)) (fun _ => rfl) (by decide) (by decide) (by decide) (by decide) (by decide) dX8_init_44 (fun q5 H hW hS => ?_)
  have hW := ws_congr (nf_push (by omega) (by first | rfl | (rw [show pl + 5 - pl = 5 by omega]; rfl))) hW
  have hh : h = upA ad4 (pl + 5) q5 (pl) := by rw [upA_lt (by omega)]; exact hh
  have hq5 : q5 = upA ad4 (pl + 5) q5 (pl + 5) := upA_eq.symm
  have had : ∀ k, k < pl + 1 → upA ad4 (pl + 5) q5 k = ad k := fun k hk => (upA_lt (by omega)).trans (had k hk)
  generalize upA ad4 (pl + 5) q5 = ad5 at *
  refine ws_putF C0 hm hW hS inAX8 tyX8 tyX8_ok nmX8 (show CL[12]? = some (RX8, TX8, 23) from rfl) (k := pl) (fs := [.inl (pl + 1), .inl (pl + 2), .inl (pl + 3), .inl (pl + 4), zI, nuL, zI, zI, zI, zI, nuL, zI, nuL, nuL, nuL, zI, nuL, nuL, nuL, zI, zI, zI, zI]) (by omega) hh nf_at 5 (by decide) zt_1556 rfl rfl rfl (ty := .array .int) (pl + 5) (by omega) hq5 (by decide +kernel) rfl rfl (Nat.le_of_ble_eq_true rfl) dX8_init_46 (fun H locs hW hS => ?_)
  rw [nf_put] at hW
  refine lv_aload_n hx hb dX8_init_49 rfl (lv_at hl 0 rfl) ?_
  refine lv_iconst (v := (-1 : Int32)) hx hb dX8_init_50 (by decide) ?_
  refine ws_putI C0 hW hS inAX8 tyX8 tyX8_ok nmX8 (show CL[12]? = some (RX8, TX8, 23) from rfl) (k := pl) (fs := [.inl (pl + 1), .inl (pl + 2), .inl (pl + 3), .inl (pl + 4), zI, .inl (pl + 5), zI, zI, zI, zI, nuL, zI, nuL, nuL, nuL, zI, nuL, nuL, nuL, zI, zI, zI, zI]) (by omega) hh nf_at 7 (by decide) zt_1558 rfl rfl (ty := .int) (v := (-1 : Int32)) (by decide +kernel) (by decide) (by decide) (Nat.le_of_ble_eq_true rfl) dX8_init_51 (fun H locs hW hS => ?_)
  rw [nf_put] at hW
  refine lv_aload_n hx hb dX8_init_54 rfl (lv_at hl 0 rfl) ?_
  refine lv_iconst (v := (-1 : Int32)) hx hb dX8_init_55 (by decide) ?_
  refine ws_putI C0 hW hS inAX8 tyX8 tyX8_ok nmX8 (show CL[12]? = some (RX8, TX8, 23) from rfl) (k := pl) (fs := [.inl (pl + 1), .inl (pl + 2), .inl (pl + 3), .inl (pl + 4), zI, .inl (pl + 5), zI, .inr (.int (-1 : Int32)), zI, zI, nuL, zI, nuL, nuL, nuL, zI, nuL, nuL, nuL, zI, zI, zI, zI]) (by omega) hh nf_at 8 (by decide) zt_1559 rfl rfl (ty := .int) (v := (-1 : Int32)) (by decide +kernel) (by decide) (by decide) (Nat.le_of_ble_eq_true rfl) dX8_init_56 (fun H locs hW hS => ?_)
  rw [nf_put] at hW
  refine lv_aload_n hx hb dX8_init_59 rfl (lv_at hl 0 rfl) ?_
  refine lv_bipush (v := (60 : Int32)) hx hb dX8_init_60 (by decide) ?_
  refine ws_newa C0 hW hS (atype := .int) (ty := .int) zt_56 rfl 0 rfl (fun _ _ h => h) (60, .inl (fun _ => 0)) (fun _ => rfl) (by decide) (by decide) (by decide) (by decide) (by decide) dX8_init_62 (fun q6 H hW hS => ?_)
  have hW := ws_congr (nf_push (by omega) (by first | rfl | (rw [show pl + 6 - pl = 6 by omega]; rfl))) hW
  have hh : h = upA ad5 (pl + 6) q6 (pl) := by rw [upA_lt (by omega)]; exact hh
  have hq6 : q6 = upA ad5 (pl + 6) q6 (pl + 6) := upA_eq.symm
  have had : ∀ k, k < pl + 1 → upA ad5 (pl + 6) q6 k = ad k := fun k hk => (upA_lt (by omega)).trans (had k hk)
  generalize upA ad5 (pl + 6) q6 = ad6 at *
  refine ws_putF C0 hm hW hS inAX8 tyX8 tyX8_ok nmX8 (show CL[12]? = some (RX8, TX8, 23) from rfl) (k := pl) (fs := [.inl (pl + 1), .inl (pl + 2), .inl (pl + 3), .inl (pl + 4), zI, .inl (pl + 5), zI, .inr (.int (-1 : Int32)), .inr (.int (-1 : Int32)), zI, nuL, zI, nuL, nuL, nuL, zI, nuL, nuL, nuL, zI, zI, zI, zI]) (by omega) hh nf_at 10 (by decide) zt_1561 rfl rfl rfl (ty := .array .int) (pl + 6) (by omega) hq6 (by decide +kernel) rfl rfl (Nat.le_of_ble_eq_true rfl) dX8_init_64 (fun H locs hW hS => ?_)
  rw [nf_put] at hW
  refine lv_aload_n hx hb dX8_init_67 rfl (lv_at hl 0 rfl) ?_
  refine lv_bipush (v := (9 : Int32)) hx hb dX8_init_68 (by decide) ?_
  refine ws_newa C0 hW hS (atype := .int) (ty := .int) zt_56 rfl 0 rfl (fun _ _ h => h) (9, .inl (fun _ => 0)) (fun _ => rfl) (by decide) (by decide) (by decide) (by decide) (by decide) dX8_init_70 (fun q7 H hW hS => ?_)
  have hW := ws_congr (nf_push (by omega) (by first | rfl | (rw [show pl + 7 - pl = 7 by omega]; rfl))) hW
  have hh : h = upA ad6 (pl + 7) q7 (pl) := by rw [upA_lt (by omega)]; exact hh
  have hq7 : q7 = upA ad6 (pl + 7) q7 (pl + 7) := upA_eq.symm
  have had : ∀ k, k < pl + 1 → upA ad6 (pl + 7) q7 k = ad k := fun k hk => (upA_lt (by omega)).trans (had k hk)
  generalize upA ad6 (pl + 7) q7 = ad7 at *
  refine ws_putF C0 hm hW hS inAX8 tyX8 tyX8_ok nmX8 (show CL[12]? = some (RX8, TX8, 23) from rfl) (k := pl) (fs := [.inl (pl + 1), .inl (pl + 2), .inl (pl + 3), .inl (pl + 4), zI, .inl (pl + 5), zI, .inr (.int (-1 : Int32)), .inr (.int (-1 : Int32)), zI, .inl (pl + 6), zI, nuL, nuL, nuL, zI, nuL, nuL, nuL, zI, zI, zI, zI]) (by omega) hh nf_at 12 (by decide) zt_1563 rfl rfl rfl (ty := .array .int) (pl + 7) (by omega) hq7 (by decide +kernel) rfl rfl (Nat.le_of_ble_eq_true rfl) dX8_init_72 (fun H locs hW hS => ?_)
  rw [nf_put] at hW
  refine lv_aload_n hx hb dX8_init_75 rfl (lv_at hl 0 rfl) ?_
  refine lv_bipush (v := (12 : Int32)) hx hb dX8_init_76 (by decide) ?_
  refine ws_newa C0 hW hS (atype := .int) (ty := .int) zt_56 rfl 0 rfl (fun _ _ h => h) (12, .inl (fun _ => 0)) (fun _ => rfl) (by decide) (by decide) (by decide) (by decide) (by decide) dX8_init_78 (fun q8 H hW hS => ?_)
  have hW := ws_congr (nf_push (by omega) (by first | rfl | (rw [show pl + 8 - pl = 8 by omega]; rfl))) hW
  have hh : h = upA ad7 (pl + 8) q8 (pl) := by rw [upA_lt (by omega)]; exact hh
  have hq8 : q8 = upA ad7 (pl + 8) q8 (pl + 8) := upA_eq.symm
  have had : ∀ k, k < pl + 1 → upA ad7 (pl + 8) q8 k = ad k := fun k hk => (upA_lt (by omega)).trans (had k hk)
  generalize upA ad7 (pl + 8) q8 = ad8 at *
  refine ws_putF C0 hm hW hS inAX8 tyX8 tyX8_ok nmX8 (show CL[12]? = some (RX8, TX8, 23) from rfl) (k := pl) (fs := [.inl (pl + 1), .inl (pl + 2), .inl (pl + 3), .inl (pl + 4), zI, .inl (pl + 5), zI, .inr (.int (-1 : Int32)), .inr (.int (-1 : Int32)), zI, .inl (pl + 6), zI, .inl (pl + 7), nuL, nuL, zI, nuL, nuL, nuL, zI, zI, zI, zI]) (by omega) hh nf_at 13 (by decide) zt_1564 rfl rfl rfl (ty := .array .int) (pl + 8) (by omega) hq8 (by decide +kernel) rfl rfl (Nat.le_of_ble_eq_true rfl) dX8_init_80 (fun H locs hW hS => ?_)
  rw [nf_put] at hW
  refine lv_aload_n hx hb dX8_init_83 rfl (lv_at hl 0 rfl) ?_
  refine lv_bipush (v := (60 : Int32)) hx hb dX8_init_84 (by decide) ?_
  refine ws_newa C0 hW hS (atype := .int) (ty := .int) zt_56 rfl 0 rfl (fun _ _ h => h) (60, .inl (fun _ => 0)) (fun _ => rfl) (by decide) (by decide) (by decide) (by decide) (by decide) dX8_init_86 (fun q9 H hW hS => ?_)
  have hW := ws_congr (nf_push (by omega) (by first | rfl | (rw [show pl + 9 - pl = 9 by omega]; rfl))) hW
  have hh : h = upA ad8 (pl + 9) q9 (pl) := by rw [upA_lt (by omega)]; exact hh
  have hq9 : q9 = upA ad8 (pl + 9) q9 (pl + 9) := upA_eq.symm
  have had : ∀ k, k < pl + 1 → upA ad8 (pl + 9) q9 k = ad k := fun k hk => (upA_lt (by omega)).trans (had k hk)
  generalize upA ad8 (pl + 9) q9 = ad9 at *
  refine ws_putF C0 hm hW hS inAX8 tyX8 tyX8_ok nmX8 (show CL[12]? = some (RX8, TX8, 23) from rfl) (k := pl) (fs := [.inl (pl + 1), .inl (pl + 2), .inl (pl + 3), .inl (pl + 4), zI, .inl (pl + 5), zI, .inr (.int (-1 : Int32)), .inr (.int (-1 : Int32)), zI, .inl (pl + 6), zI, .inl (pl + 7), .inl (pl + 8), nuL, zI, nuL, nuL, nuL, zI, zI, zI, zI]) (by omega) hh nf_at 14 (by decide) zt_1565 rfl rfl rfl (ty := .array .int) (pl + 9) (by omega) hq9 (by decide +kernel) rfl rfl (Nat.le_of_ble_eq_true rfl) dX8_init_88 (fun H locs hW hS => ?_)
  rw [nf_put] at hW
  refine lv_aload_n hx hb dX8_init_91 rfl (lv_at hl 0 rfl) ?_
  refine lv_bipush (v := (57 : Int32)) hx hb dX8_init_92 (by decide) ?_
  refine ws_newa C0 hW hS (atype := .char) (ty := .char) zt_258 rfl 2 rfl (fun _ _ h => h) (57, .inl (fun _ => 0)) (fun _ => rfl) (by decide) (by decide) (by decide) (by decide) (by decide) dX8_init_94 (fun q10 H hW hS => ?_)
  have hh : h = upA ad9 (pl + 10) q10 (pl) := by rw [upA_lt (by omega)]; exact hh
  have hq10 : q10 = upA ad9 (pl + 10) q10 (pl + 10) := upA_eq.symm
  have had : ∀ k, k < pl + 1 → upA ad9 (pl + 10) q10 k = ad k := fun k hk => (upA_lt (by omega)).trans (had k hk)
  generalize upA ad9 (pl + 10) q10 = ad10 at *
  refine lv_dup hx hb dX8_init_96 rfl ?_
  refine lv_iconst (v := (0 : Int32)) hx hb dX8_init_97 (by decide) ?_
  refine lv_bipush (v := (112 : Int32)) hx hb dX8_init_98 (by decide) ?_
  refine ws_cast C0 hW hS (k := pl + 10) (N := 57) (by omega) hq10 upS_eq (show vin (0 : Int32) 57 from by decide) (by decide) dX8_init_100 (fun H locs hW hS => ?_)
  rw [upS_up] at hW
  refine lv_dup hx hb dX8_init_101 rfl ?_
  refine lv_iconst (v := (1 : Int32)) hx hb dX8_init_102 (by decide) ?_
  refine lv_bipush (v := (108 : Int32)) hx hb dX8_init_103 (by decide) ?_
  refine ws_cast C0 hW hS (k := pl + 10) (N := 57) (by omega) hq10 upS_eq (show vin (1 : Int32) 57 from by decide) (by decide) dX8_init_105 (fun H locs hW hS => ?_)
  rw [upS_up] at hW
  refine lv_dup hx hb dX8_init_106 rfl ?_
  refine lv_iconst (v := (2 : Int32)) hx hb dX8_init_107 (by decide) ?_
  refine lv_bipush (v := (97 : Int32)) hx hb dX8_init_108 (by decide) ?_
  refine ws_cast C0 hW hS (k := pl + 10) (N := 57) (by omega) hq10 upS_eq (show vin (2 : Int32) 57 from by decide) (by decide) dX8_init_110 (fun H locs hW hS => ?_)
  rw [upS_up] at hW
  refine lv_dup hx hb dX8_init_111 rfl ?_
  refine lv_iconst (v := (3 : Int32)) hx hb dX8_init_112 (by decide) ?_
  refine lv_bipush (v := (99 : Int32)) hx hb dX8_init_113 (by decide) ?_
  refine ws_cast C0 hW hS (k := pl + 10) (N := 57) (by omega) hq10 upS_eq (show vin (3 : Int32) 57 from by decide) (by decide) dX8_init_115 (fun H locs hW hS => ?_)
  rw [upS_up] at hW
  refine lv_dup hx hb dX8_init_116 rfl ?_
  refine lv_iconst (v := (4 : Int32)) hx hb dX8_init_117 (by decide) ?_
  refine lv_bipush (v := (101 : Int32)) hx hb dX8_init_118 (by decide) ?_
  refine ws_cast C0 hW hS (k := pl + 10) (N := 57) (by omega) hq10 upS_eq (show vin (4 : Int32) 57 from by decide) (by decide) dX8_init_120 (fun H locs hW hS => ?_)
  rw [upS_up] at hW
  refine lv_dup hx hb dX8_init_121 rfl ?_
  refine lv_iconst (v := (5 : Int32)) hx hb dX8_init_122 (by decide) ?_
  refine lv_bipush (v := (108 : Int32)) hx hb dX8_init_123 (by decide) ?_
  refine ws_cast C0 hW hS (k := pl + 10) (N := 57) (by omega) hq10 upS_eq (show vin (5 : Int32) 57 from by decide) (by decide) dX8_init_125 (fun H locs hW hS => ?_)
  rw [upS_up] at hW
  refine lv_dup hx hb dX8_init_126 rfl ?_
  refine lv_bipush (v := (6 : Int32)) hx hb dX8_init_127 (by decide) ?_
  refine lv_bipush (v := (105 : Int32)) hx hb dX8_init_129 (by decide) ?_
  refine ws_cast C0 hW hS (k := pl + 10) (N := 57) (by omega) hq10 upS_eq (show vin (6 : Int32) 57 from by decide) (by decide) dX8_init_131 (fun H locs hW hS => ?_)
  rw [upS_up] at hW
  refine lv_dup hx hb dX8_init_132 rfl ?_
  refine lv_bipush (v := (7 : Int32)) hx hb dX8_init_133 (by decide) ?_
  refine lv_bipush (v := (110 : Int32)) hx hb dX8_init_135 (by decide) ?_
  refine ws_cast C0 hW hS (k := pl + 10) (N := 57) (by omega) hq10 upS_eq (show vin (7 : Int32) 57 from by decide) (by decide) dX8_init_137 (fun H locs hW hS => ?_)
  rw [upS_up] at hW
  refine lv_dup hx hb dX8_init_138 rfl ?_
  refine lv_bipush (v := (8 : Int32)) hx hb dX8_init_139 (by decide) ?_
  refine lv_bipush (v := (107 : Int32)) hx hb dX8_init_141 (by decide) ?_
  refine ws_cast C0 hW hS (k := pl + 10) (N := 57) (by omega) hq10 upS_eq (show vin (8 : Int32) 57 from by decide) (by decide) dX8_init_143 (fun H locs hW hS => ?_)
  rw [upS_up] at hW
  refine lv_dup hx hb dX8_init_144 rfl ?_
  refine lv_bipush (v := (9 : Int32)) hx hb dX8_init_145 (by decide) ?_
  refine lv_bipush (v := (32 : Int32)) hx hb dX8_init_147 (by decide) ?_
  refine ws_cast C0 hW hS (k := pl + 10) (N := 57) (by omega) hq10 upS_eq (show vin (9 : Int32) 57 from by decide) (by decide) dX8_init_149 (fun H locs hW hS => ?_)
  rw [upS_up] at hW
  refine lv_dup hx hb dX8_init_150 rfl ?_
  refine lv_bipush (v := (10 : Int32)) hx hb dX8_init_151 (by decide) ?_
  refine lv_bipush (v := (98 : Int32)) hx hb dX8_init_153 (by decide) ?_
  refine ws_cast C0 hW hS (k := pl + 10) (N := 57) (by omega) hq10 upS_eq (show vin (10 : Int32) 57 from by decide) (by decide) dX8_init_155 (fun H locs hW hS => ?_)
  rw [upS_up] at hW
  refine lv_dup hx hb dX8_init_156 rfl ?_
  refine lv_bipush (v := (11 : Int32)) hx hb dX8_init_157 (by decide) ?_
  refine lv_bipush (v := (108 : Int32)) hx hb dX8_init_159 (by decide) ?_
  refine ws_cast C0 hW hS (k := pl + 10) (N := 57) (by omega) hq10 upS_eq (show vin (11 : Int32) 57 from by decide) (by decide) dX8_init_161 (fun H locs hW hS => ?_)
  rw [upS_up] at hW
  refine lv_dup hx hb dX8_init_162 rfl ?_
  refine lv_bipush (v := (12 : Int32)) hx hb dX8_init_163 (by decide) ?_
  refine lv_bipush (v := (111 : Int32)) hx hb dX8_init_165 (by decide) ?_
  refine ws_cast C0 hW hS (k := pl + 10) (N := 57) (by omega) hq10 upS_eq (show vin (12 : Int32) 57 from by decide) (by decide) dX8_init_167 (fun H locs hW hS => ?_)
  rw [upS_up] at hW
  refine lv_dup hx hb dX8_init_168 rfl ?_
  refine lv_bipush (v := (13 : Int32)) hx hb dX8_init_169 (by decide) ?_
  refine lv_bipush (v := (99 : Int32)) hx hb dX8_init_171 (by decide) ?_
  refine ws_cast C0 hW hS (k := pl + 10) (N := 57) (by omega) hq10 upS_eq (show vin (13 : Int32) 57 from by decide) (by decide) dX8_init_173 (fun H locs hW hS => ?_)
  rw [upS_up] at hW
  refine lv_dup hx hb dX8_init_174 rfl ?_
  refine lv_bipush (v := (14 : Int32)) hx hb dX8_init_175 (by decide) ?_
  refine lv_bipush (v := (107 : Int32)) hx hb dX8_init_177 (by decide) ?_
  refine ws_cast C0 hW hS (k := pl + 10) (N := 57) (by omega) hq10 upS_eq (show vin (14 : Int32) 57 from by decide) (by decide) dX8_init_179 (fun H locs hW hS => ?_)
  rw [upS_up] at hW
  refine lv_dup hx hb dX8_init_180 rfl ?_
  refine lv_bipush (v := (15 : Int32)) hx hb dX8_init_181 (by decide) ?_
  refine lv_bipush (v := (32 : Int32)) hx hb dX8_init_183 (by decide) ?_
  refine ws_cast C0 hW hS (k := pl + 10) (N := 57) (by omega) hq10 upS_eq (show vin (15 : Int32) 57 from by decide) (by decide) dX8_init_185 (fun H locs hW hS => ?_)
  rw [upS_up] at hW
  refine lv_dup hx hb dX8_init_186 rfl ?_
  refine lv_bipush (v := (16 : Int32)) hx hb dX8_init_187 (by decide) ?_
  refine lv_bipush (v := (111 : Int32)) hx hb dX8_init_189 (by decide) ?_
  refine ws_cast C0 hW hS (k := pl + 10) (N := 57) (by omega) hq10 upS_eq (show vin (16 : Int32) 57 from by decide) (by decide) dX8_init_191 (fun H locs hW hS => ?_)
  rw [upS_up] at hW
  refine lv_dup hx hb dX8_init_192 rfl ?_
  refine lv_bipush (v := (17 : Int32)) hx hb dX8_init_193 (by decide) ?_
  refine lv_bipush (v := (112 : Int32)) hx hb dX8_init_195 (by decide) ?_
  refine ws_cast C0 hW hS (k := pl + 10) (N := 57) (by omega) hq10 upS_eq (show vin (17 : Int32) 57 from by decide) (by decide) dX8_init_197 (fun H locs hW hS => ?_)
  rw [upS_up] at hW
  refine lv_dup hx hb dX8_init_198 rfl ?_
  refine lv_bipush (v := (18 : Int32)) hx hb dX8_init_199 (by decide) ?_
  refine lv_bipush (v := (101 : Int32)) hx hb dX8_init_201 (by decide) ?_
  refine ws_cast C0 hW hS (k := pl + 10) (N := 57) (by omega) hq10 upS_eq (show vin (18 : Int32) 57 from by decide) (by decide) dX8_init_203 (fun H locs hW hS => ?_)
  rw [upS_up] at hW
  refine lv_dup hx hb dX8_init_204 rfl ?_
  refine lv_bipush (v := (19 : Int32)) hx hb dX8_init_205 (by decide) ?_
  refine lv_bipush (v := (110 : Int32)) hx hb dX8_init_207 (by decide) ?_
  refine ws_cast C0 hW hS (k := pl + 10) (N := 57) (by omega) hq10 upS_eq (show vin (19 : Int32) 57 from by decide) (by decide) dX8_init_209 (fun H locs hW hS => ?_)
  rw [upS_up] at hW
  refine lv_dup hx hb dX8_init_210 rfl ?_
  refine lv_bipush (v := (20 : Int32)) hx hb dX8_init_211 (by decide) ?_
  refine lv_bipush (v := (32 : Int32)) hx hb dX8_init_213 (by decide) ?_
  refine ws_cast C0 hW hS (k := pl + 10) (N := 57) (by omega) hq10 upS_eq (show vin (20 : Int32) 57 from by decide) (by decide) dX8_init_215 (fun H locs hW hS => ?_)
  rw [upS_up] at hW
  refine lv_dup hx hb dX8_init_216 rfl ?_
  refine lv_bipush (v := (21 : Int32)) hx hb dX8_init_217 (by decide) ?_
  refine lv_bipush (v := (112 : Int32)) hx hb dX8_init_219 (by decide) ?_
  refine ws_cast C0 hW hS (k := pl + 10) (N := 57) (by omega) hq10 upS_eq (show vin (21 : Int32) 57 from by decide) (by decide) dX8_init_221 (fun H locs hW hS => ?_)
  rw [upS_up] at hW
  refine lv_dup hx hb dX8_init_222 rfl ?_
  refine lv_bipush (v := (22 : Int32)) hx hb dX8_init_223 (by decide) ?_
  refine lv_bipush (v := (111 : Int32)) hx hb dX8_init_225 (by decide) ?_
  refine ws_cast C0 hW hS (k := pl + 10) (N := 57) (by omega) hq10 upS_eq (show vin (22 : Int32) 57 from by decide) (by decide) dX8_init_227 (fun H locs hW hS => ?_)
  rw [upS_up] at hW
  refine lv_dup hx hb dX8_init_228 rfl ?_
  refine lv_bipush (v := (23 : Int32)) hx hb dX8_init_229 (by decide) ?_
  refine lv_bipush (v := (115 : Int32)) hx hb dX8_init_231 (by decide) ?_
  refine ws_cast C0 hW hS (k := pl + 10) (N := 57) (by omega) hq10 upS_eq (show vin (23 : Int32) 57 from by decide) (by decide) dX8_init_233 (fun H locs hW hS => ?_)
  rw [upS_up] at hW
  refine lv_dup hx hb dX8_init_234 rfl ?_
  refine lv_bipush (v := (24 : Int32)) hx hb dX8_init_235 (by decide) ?_
  refine lv_bipush (v := (116 : Int32)) hx hb dX8_init_237 (by decide) ?_
  refine ws_cast C0 hW hS (k := pl + 10) (N := 57) (by omega) hq10 upS_eq (show vin (24 : Int32) 57 from by decide) (by decide) dX8_init_239 (fun H locs hW hS => ?_)
  rw [upS_up] at hW
  refine lv_dup hx hb dX8_init_240 rfl ?_
  refine lv_bipush (v := (25 : Int32)) hx hb dX8_init_241 (by decide) ?_
  refine lv_bipush (v := (32 : Int32)) hx hb dX8_init_243 (by decide) ?_
  refine ws_cast C0 hW hS (k := pl + 10) (N := 57) (by omega) hq10 upS_eq (show vin (25 : Int32) 57 from by decide) (by decide) dX8_init_245 (fun H locs hW hS => ?_)
  rw [upS_up] at hW
  refine lv_dup hx hb dX8_init_246 rfl ?_
  refine lv_bipush (v := (26 : Int32)) hx hb dX8_init_247 (by decide) ?_
  refine lv_bipush (v := (115 : Int32)) hx hb dX8_init_249 (by decide) ?_
  refine ws_cast C0 hW hS (k := pl + 10) (N := 57) (by omega) hq10 upS_eq (show vin (26 : Int32) 57 from by decide) (by decide) dX8_init_251 (fun H locs hW hS => ?_)
  rw [upS_up] at hW
  refine lv_dup hx hb dX8_init_252 rfl ?_
  refine lv_bipush (v := (27 : Int32)) hx hb dX8_init_253 (by decide) ?_
  refine lv_bipush (v := (101 : Int32)) hx hb dX8_init_255 (by decide) ?_
  refine ws_cast C0 hW hS (k := pl + 10) (N := 57) (by omega) hq10 upS_eq (show vin (27 : Int32) 57 from by decide) (by decide) dX8_init_257 (fun H locs hW hS => ?_)
  rw [upS_up] at hW
  refine lv_dup hx hb dX8_init_258 rfl ?_
  refine lv_bipush (v := (28 : Int32)) hx hb dX8_init_259 (by decide) ?_
  refine lv_bipush (v := (110 : Int32)) hx hb dX8_init_261 (by decide) ?_
  refine ws_cast C0 hW hS (k := pl + 10) (N := 57) (by omega) hq10 upS_eq (show vin (28 : Int32) 57 from by decide) (by decide) dX8_init_263 (fun H locs hW hS => ?_)
  rw [upS_up] at hW
  refine lv_dup hx hb dX8_init_264 rfl ?_
  refine lv_bipush (v := (29 : Int32)) hx hb dX8_init_265 (by decide) ?_
  refine lv_bipush (v := (100 : Int32)) hx hb dX8_init_267 (by decide) ?_
  refine ws_cast C0 hW hS (k := pl + 10) (N := 57) (by omega) hq10 upS_eq (show vin (29 : Int32) 57 from by decide) (by decide) dX8_init_269 (fun H locs hW hS => ?_)
  rw [upS_up] at hW
  refine lv_dup hx hb dX8_init_270 rfl ?_
  refine lv_bipush (v := (30 : Int32)) hx hb dX8_init_271 (by decide) ?_
  refine lv_bipush (v := (32 : Int32)) hx hb dX8_init_273 (by decide) ?_
  refine ws_cast C0 hW hS (k := pl + 10) (N := 57) (by omega) hq10 upS_eq (show vin (30 : Int32) 57 from by decide) (by decide) dX8_init_275 (fun H locs hW hS => ?_)
  rw [upS_up] at hW
  refine lv_dup hx hb dX8_init_276 rfl ?_
  refine lv_bipush (v := (31 : Int32)) hx hb dX8_init_277 (by decide) ?_
  refine lv_bipush (v := (115 : Int32)) hx hb dX8_init_279 (by decide) ?_
  refine ws_cast C0 hW hS (k := pl + 10) (N := 57) (by omega) hq10 upS_eq (show vin (31 : Int32) 57 from by decide) (by decide) dX8_init_281 (fun H locs hW hS => ?_)
  rw [upS_up] at hW
  refine lv_dup hx hb dX8_init_282 rfl ?_
  refine lv_bipush (v := (32 : Int32)) hx hb dX8_init_283 (by decide) ?_
  refine lv_bipush (v := (116 : Int32)) hx hb dX8_init_285 (by decide) ?_
  refine ws_cast C0 hW hS (k := pl + 10) (N := 57) (by omega) hq10 upS_eq (show vin (32 : Int32) 57 from by decide) (by decide) dX8_init_287 (fun H locs hW hS => ?_)
  rw [upS_up] at hW
  refine lv_dup hx hb dX8_init_288 rfl ?_
  refine lv_bipush (v := (33 : Int32)) hx hb dX8_init_289 (by decide) ?_
  refine lv_bipush (v := (97 : Int32)) hx hb dX8_init_291 (by decide) ?_
  refine ws_cast C0 hW hS (k := pl + 10) (N := 57) (by omega) hq10 upS_eq (show vin (33 : Int32) 57 from by decide) (by decide) dX8_init_293 (fun H locs hW hS => ?_)
  rw [upS_up] at hW
  refine lv_dup hx hb dX8_init_294 rfl ?_
  refine lv_bipush (v := (34 : Int32)) hx hb dX8_init_295 (by decide) ?_
  refine lv_bipush (v := (109 : Int32)) hx hb dX8_init_297 (by decide) ?_
  refine ws_cast C0 hW hS (k := pl + 10) (N := 57) (by omega) hq10 upS_eq (show vin (34 : Int32) 57 from by decide) (by decide) dX8_init_299 (fun H locs hW hS => ?_)
  rw [upS_up] at hW
  refine lv_dup hx hb dX8_init_300 rfl ?_
  refine lv_bipush (v := (35 : Int32)) hx hb dX8_init_301 (by decide) ?_
  refine lv_bipush (v := (112 : Int32)) hx hb dX8_init_303 (by decide) ?_
  refine ws_cast C0 hW hS (k := pl + 10) (N := 57) (by omega) hq10 upS_eq (show vin (35 : Int32) 57 from by decide) (by decide) dX8_init_305 (fun H locs hW hS => ?_)
  rw [upS_up] at hW
  refine lv_dup hx hb dX8_init_306 rfl ?_
  refine lv_bipush (v := (36 : Int32)) hx hb dX8_init_307 (by decide) ?_
  refine lv_bipush (v := (32 : Int32)) hx hb dX8_init_309 (by decide) ?_
  refine ws_cast C0 hW hS (k := pl + 10) (N := 57) (by omega) hq10 upS_eq (show vin (36 : Int32) 57 from by decide) (by decide) dX8_init_311 (fun H locs hW hS => ?_)
  rw [upS_up] at hW
  refine lv_dup hx hb dX8_init_312 rfl ?_
  refine lv_bipush (v := (37 : Int32)) hx hb dX8_init_313 (by decide) ?_
  refine lv_bipush (v := (114 : Int32)) hx hb dX8_init_315 (by decide) ?_
  refine ws_cast C0 hW hS (k := pl + 10) (N := 57) (by omega) hq10 upS_eq (show vin (37 : Int32) 57 from by decide) (by decide) dX8_init_317 (fun H locs hW hS => ?_)
  rw [upS_up] at hW
  refine lv_dup hx hb dX8_init_318 rfl ?_
  refine lv_bipush (v := (38 : Int32)) hx hb dX8_init_319 (by decide) ?_
  refine lv_bipush (v := (101 : Int32)) hx hb dX8_init_321 (by decide) ?_
  refine ws_cast C0 hW hS (k := pl + 10) (N := 57) (by omega) hq10 upS_eq (show vin (38 : Int32) 57 from by decide) (by decide) dX8_init_323 (fun H locs hW hS => ?_)
  rw [upS_up] at hW
  refine lv_dup hx hb dX8_init_324 rfl ?_
  refine lv_bipush (v := (39 : Int32)) hx hb dX8_init_325 (by decide) ?_
  refine lv_bipush (v := (116 : Int32)) hx hb dX8_init_327 (by decide) ?_
  refine ws_cast C0 hW hS (k := pl + 10) (N := 57) (by omega) hq10 upS_eq (show vin (39 : Int32) 57 from by decide) (by decide) dX8_init_329 (fun H locs hW hS => ?_)
  rw [upS_up] at hW
  refine lv_dup hx hb dX8_init_330 rfl ?_
  refine lv_bipush (v := (40 : Int32)) hx hb dX8_init_331 (by decide) ?_
  refine lv_bipush (v := (117 : Int32)) hx hb dX8_init_333 (by decide) ?_
  refine ws_cast C0 hW hS (k := pl + 10) (N := 57) (by omega) hq10 upS_eq (show vin (40 : Int32) 57 from by decide) (by decide) dX8_init_335 (fun H locs hW hS => ?_)
  rw [upS_up] at hW
  refine lv_dup hx hb dX8_init_336 rfl ?_
  refine lv_bipush (v := (41 : Int32)) hx hb dX8_init_337 (by decide) ?_
  refine lv_bipush (v := (114 : Int32)) hx hb dX8_init_339 (by decide) ?_
  refine ws_cast C0 hW hS (k := pl + 10) (N := 57) (by omega) hq10 upS_eq (show vin (41 : Int32) 57 from by decide) (by decide) dX8_init_341 (fun H locs hW hS => ?_)
  rw [upS_up] at hW
  refine lv_dup hx hb dX8_init_342 rfl ?_
  refine lv_bipush (v := (42 : Int32)) hx hb dX8_init_343 (by decide) ?_
  refine lv_bipush (v := (110 : Int32)) hx hb dX8_init_345 (by decide) ?_
  refine ws_cast C0 hW hS (k := pl + 10) (N := 57) (by omega) hq10 upS_eq (show vin (42 : Int32) 57 from by decide) (by decide) dX8_init_347 (fun H locs hW hS => ?_)
  rw [upS_up] at hW
  refine lv_dup hx hb dX8_init_348 rfl ?_
  refine lv_bipush (v := (43 : Int32)) hx hb dX8_init_349 (by decide) ?_
  refine lv_bipush (v := (32 : Int32)) hx hb dX8_init_351 (by decide) ?_
  refine ws_cast C0 hW hS (k := pl + 10) (N := 57) (by omega) hq10 upS_eq (show vin (43 : Int32) 57 from by decide) (by decide) dX8_init_353 (fun H locs hW hS => ?_)
  rw [upS_up] at hW
  refine lv_dup hx hb dX8_init_354 rfl ?_
  refine lv_bipush (v := (44 : Int32)) hx hb dX8_init_355 (by decide) ?_
  refine lv_bipush (v := (100 : Int32)) hx hb dX8_init_357 (by decide) ?_
  refine ws_cast C0 hW hS (k := pl + 10) (N := 57) (by omega) hq10 upS_eq (show vin (44 : Int32) 57 from by decide) (by decide) dX8_init_359 (fun H locs hW hS => ?_)
  rw [upS_up] at hW
  refine lv_dup hx hb dX8_init_360 rfl ?_
  refine lv_bipush (v := (45 : Int32)) hx hb dX8_init_361 (by decide) ?_
  refine lv_bipush (v := (105 : Int32)) hx hb dX8_init_363 (by decide) ?_
  refine ws_cast C0 hW hS (k := pl + 10) (N := 57) (by omega) hq10 upS_eq (show vin (45 : Int32) 57 from by decide) (by decide) dX8_init_365 (fun H locs hW hS => ?_)
  rw [upS_up] at hW
  refine lv_dup hx hb dX8_init_366 rfl ?_
  refine lv_bipush (v := (46 : Int32)) hx hb dX8_init_367 (by decide) ?_
  refine lv_bipush (v := (115 : Int32)) hx hb dX8_init_369 (by decide) ?_
  refine ws_cast C0 hW hS (k := pl + 10) (N := 57) (by omega) hq10 upS_eq (show vin (46 : Int32) 57 from by decide) (by decide) dX8_init_371 (fun H locs hW hS => ?_)
  rw [upS_up] at hW
  refine lv_dup hx hb dX8_init_372 rfl ?_
  refine lv_bipush (v := (47 : Int32)) hx hb dX8_init_373 (by decide) ?_
  refine lv_bipush (v := (112 : Int32)) hx hb dX8_init_375 (by decide) ?_
  refine ws_cast C0 hW hS (k := pl + 10) (N := 57) (by omega) hq10 upS_eq (show vin (47 : Int32) 57 from by decide) (by decide) dX8_init_377 (fun H locs hW hS => ?_)
  rw [upS_up] at hW
  refine lv_dup hx hb dX8_init_378 rfl ?_
  refine lv_bipush (v := (48 : Int32)) hx hb dX8_init_379 (by decide) ?_
  refine lv_bipush (v := (97 : Int32)) hx hb dX8_init_381 (by decide) ?_
  refine ws_cast C0 hW hS (k := pl + 10) (N := 57) (by omega) hq10 upS_eq (show vin (48 : Int32) 57 from by decide) (by decide) dX8_init_383 (fun H locs hW hS => ?_)
  rw [upS_up] at hW
  refine lv_dup hx hb dX8_init_384 rfl ?_
  refine lv_bipush (v := (49 : Int32)) hx hb dX8_init_385 (by decide) ?_
  refine lv_bipush (v := (116 : Int32)) hx hb dX8_init_387 (by decide) ?_
  refine ws_cast C0 hW hS (k := pl + 10) (N := 57) (by omega) hq10 upS_eq (show vin (49 : Int32) 57 from by decide) (by decide) dX8_init_389 (fun H locs hW hS => ?_)
  rw [upS_up] at hW
  refine lv_dup hx hb dX8_init_390 rfl ?_
  refine lv_bipush (v := (50 : Int32)) hx hb dX8_init_391 (by decide) ?_
  refine lv_bipush (v := (99 : Int32)) hx hb dX8_init_393 (by decide) ?_
  refine ws_cast C0 hW hS (k := pl + 10) (N := 57) (by omega) hq10 upS_eq (show vin (50 : Int32) 57 from by decide) (by decide) dX8_init_395 (fun H locs hW hS => ?_)
  rw [upS_up] at hW
  refine lv_dup hx hb dX8_init_396 rfl ?_
  refine lv_bipush (v := (51 : Int32)) hx hb dX8_init_397 (by decide) ?_
  refine lv_bipush (v := (104 : Int32)) hx hb dX8_init_399 (by decide) ?_
  refine ws_cast C0 hW hS (k := pl + 10) (N := 57) (by omega) hq10 upS_eq (show vin (51 : Int32) 57 from by decide) (by decide) dX8_init_401 (fun H locs hW hS => ?_)
  rw [upS_up] at hW
  refine lv_dup hx hb dX8_init_402 rfl ?_
  refine lv_bipush (v := (52 : Int32)) hx hb dX8_init_403 (by decide) ?_
  refine lv_bipush (v := (104 : Int32)) hx hb dX8_init_405 (by decide) ?_
  refine ws_cast C0 hW hS (k := pl + 10) (N := 57) (by omega) hq10 upS_eq (show vin (52 : Int32) 57 from by decide) (by decide) dX8_init_407 (fun H locs hW hS => ?_)
  rw [upS_up] at hW
  refine lv_dup hx hb dX8_init_408 rfl ?_
  refine lv_bipush (v := (53 : Int32)) hx hb dX8_init_409 (by decide) ?_
  refine lv_bipush (v := (111 : Int32)) hx hb dX8_init_411 (by decide) ?_
  refine ws_cast C0 hW hS (k := pl + 10) (N := 57) (by omega) hq10 upS_eq (show vin (53 : Int32) 57 from by decide) (by decide) dX8_init_413 (fun H locs hW hS => ?_)
  rw [upS_up] at hW
  refine lv_dup hx hb dX8_init_414 rfl ?_
  refine lv_bipush (v := (54 : Int32)) hx hb dX8_init_415 (by decide) ?_
  refine lv_bipush (v := (117 : Int32)) hx hb dX8_init_417 (by decide) ?_
  refine ws_cast C0 hW hS (k := pl + 10) (N := 57) (by omega) hq10 upS_eq (show vin (54 : Int32) 57 from by decide) (by decide) dX8_init_419 (fun H locs hW hS => ?_)
  rw [upS_up] at hW
  refine lv_dup hx hb dX8_init_420 rfl ?_
  refine lv_bipush (v := (55 : Int32)) hx hb dX8_init_421 (by decide) ?_
  refine lv_bipush (v := (114 : Int32)) hx hb dX8_init_423 (by decide) ?_
  refine ws_cast C0 hW hS (k := pl + 10) (N := 57) (by omega) hq10 upS_eq (show vin (55 : Int32) 57 from by decide) (by decide) dX8_init_425 (fun H locs hW hS => ?_)
  rw [upS_up] at hW
  refine lv_dup hx hb dX8_init_426 rfl ?_
  refine lv_bipush (v := (56 : Int32)) hx hb dX8_init_427 (by decide) ?_
  refine lv_bipush (v := (115 : Int32)) hx hb dX8_init_429 (by decide) ?_
  refine ws_cast C0 hW hS (k := pl + 10) (N := 57) (by omega) hq10 upS_eq (show vin (56 : Int32) 57 from by decide) (by decide) dX8_init_431 (fun H locs hW hS => ?_)
  rw [upS_up] at hW
  have hW := ws_congr (nf_push (by omega) (by first | rfl | (rw [show pl + 10 - pl = 10 by omega]; rfl))) hW
  refine ws_putF C0 hm hW hS inAX8 tyX8 tyX8_ok nmX8 (show CL[12]? = some (RX8, TX8, 23) from rfl) (k := pl) (fs := [.inl (pl + 1), .inl (pl + 2), .inl (pl + 3), .inl (pl + 4), zI, .inl (pl + 5), zI, .inr (.int (-1 : Int32)), .inr (.int (-1 : Int32)), zI, .inl (pl + 6), zI, .inl (pl + 7), .inl (pl + 8), .inl (pl + 9), zI, nuL, nuL, nuL, zI, zI, zI, zI]) (by omega) hh nf_at 16 (by decide) zt_1567 rfl rfl rfl (ty := .array .char) (pl + 10) (by omega) hq10 (by decide +kernel) rfl rfl (Nat.le_of_ble_eq_true rfl) dX8_init_432 (fun H locs hW hS => ?_)
  rw [nf_put] at hW
  refine lv_aload_n hx hb dX8_init_435 rfl (lv_at hl 0 rfl) ?_
  refine lv_bipush (v := (11 : Int32)) hx hb dX8_init_436 (by decide) ?_
  refine ws_newa C0 hW hS (atype := .int) (ty := .int) zt_56 rfl 0 rfl (fun _ _ h => h) (11, .inl (fun _ => 0)) (fun _ => rfl) (by decide) (by decide) (by decide) (by decide) (by decide) dX8_init_438 (fun q11 H hW hS => ?_)
  have hh : h = upA ad10 (pl + 11) q11 (pl) := by rw [upA_lt (by omega)]; exact hh
  have hq11 : q11 = upA ad10 (pl + 11) q11 (pl + 11) := upA_eq.symm
  have had : ∀ k, k < pl + 1 → upA ad10 (pl + 11) q11 k = ad k := fun k hk => (upA_lt (by omega)).trans (had k hk)
  generalize upA ad10 (pl + 11) q11 = ad11 at *
  refine lv_dup hx hb dX8_init_440 rfl ?_
  refine lv_iconst (v := (0 : Int32)) hx hb dX8_init_441 (by decide) ?_
  refine lv_iconst (v := (0 : Int32)) hx hb dX8_init_442 (by decide) ?_
  refine ws_iast C0 hW hS (k := pl + 11) (N := 11) (by omega) hq11 upS_eq (show vin (0 : Int32) 11 from by decide) dX8_init_443 (fun H locs hW hS => ?_)
  rw [upS_up] at hW
  refine lv_dup hx hb dX8_init_444 rfl ?_
  refine lv_iconst (v := (1 : Int32)) hx hb dX8_init_445 (by decide) ?_
  refine lv_iconst (v := (5 : Int32)) hx hb dX8_init_446 (by decide) ?_
  refine ws_iast C0 hW hS (k := pl + 11) (N := 11) (by omega) hq11 upS_eq (show vin (1 : Int32) 11 from by decide) dX8_init_447 (fun H locs hW hS => ?_)
  rw [upS_up] at hW
  refine lv_dup hx hb dX8_init_448 rfl ?_
  refine lv_iconst (v := (2 : Int32)) hx hb dX8_init_449 (by decide) ?_
  refine lv_bipush (v := (10 : Int32)) hx hb dX8_init_450 (by decide) ?_
  refine ws_iast C0 hW hS (k := pl + 11) (N := 11) (by omega) hq11 upS_eq (show vin (2 : Int32) 11 from by decide) dX8_init_452 (fun H locs hW hS => ?_)
  rw [upS_up] at hW
  refine lv_dup hx hb dX8_init_453 rfl ?_
  refine lv_iconst (v := (3 : Int32)) hx hb dX8_init_454 (by decide) ?_
  refine lv_bipush (v := (16 : Int32)) hx hb dX8_init_455 (by decide) ?_
  refine ws_iast C0 hW hS (k := pl + 11) (N := 11) (by omega) hq11 upS_eq (show vin (3 : Int32) 11 from by decide) dX8_init_457 (fun H locs hW hS => ?_)
  rw [upS_up] at hW
  refine lv_dup hx hb dX8_init_458 rfl ?_
  refine lv_iconst (v := (4 : Int32)) hx hb dX8_init_459 (by decide) ?_
  refine lv_bipush (v := (21 : Int32)) hx hb dX8_init_460 (by decide) ?_
  refine ws_iast C0 hW hS (k := pl + 11) (N := 11) (by omega) hq11 upS_eq (show vin (4 : Int32) 11 from by decide) dX8_init_462 (fun H locs hW hS => ?_)
  rw [upS_up] at hW
  refine lv_dup hx hb dX8_init_463 rfl ?_
  refine lv_iconst (v := (5 : Int32)) hx hb dX8_init_464 (by decide) ?_
  refine lv_bipush (v := (26 : Int32)) hx hb dX8_init_465 (by decide) ?_
  refine ws_iast C0 hW hS (k := pl + 11) (N := 11) (by omega) hq11 upS_eq (show vin (5 : Int32) 11 from by decide) dX8_init_467 (fun H locs hW hS => ?_)
  rw [upS_up] at hW
  refine lv_dup hx hb dX8_init_468 rfl ?_
  refine lv_bipush (v := (6 : Int32)) hx hb dX8_init_469 (by decide) ?_
  refine lv_bipush (v := (31 : Int32)) hx hb dX8_init_471 (by decide) ?_
  refine ws_iast C0 hW hS (k := pl + 11) (N := 11) (by omega) hq11 upS_eq (show vin (6 : Int32) 11 from by decide) dX8_init_473 (fun H locs hW hS => ?_)
  rw [upS_up] at hW
  refine lv_dup hx hb dX8_init_474 rfl ?_
  refine lv_bipush (v := (7 : Int32)) hx hb dX8_init_475 (by decide) ?_
  refine lv_bipush (v := (37 : Int32)) hx hb dX8_init_477 (by decide) ?_
  refine ws_iast C0 hW hS (k := pl + 11) (N := 11) (by omega) hq11 upS_eq (show vin (7 : Int32) 11 from by decide) dX8_init_479 (fun H locs hW hS => ?_)
  rw [upS_up] at hW
  refine lv_dup hx hb dX8_init_480 rfl ?_
  refine lv_bipush (v := (8 : Int32)) hx hb dX8_init_481 (by decide) ?_
  refine lv_bipush (v := (44 : Int32)) hx hb dX8_init_483 (by decide) ?_
  refine ws_iast C0 hW hS (k := pl + 11) (N := 11) (by omega) hq11 upS_eq (show vin (8 : Int32) 11 from by decide) dX8_init_485 (fun H locs hW hS => ?_)
  rw [upS_up] at hW
  refine lv_dup hx hb dX8_init_486 rfl ?_
  refine lv_bipush (v := (9 : Int32)) hx hb dX8_init_487 (by decide) ?_
  refine lv_bipush (v := (52 : Int32)) hx hb dX8_init_489 (by decide) ?_
  refine ws_iast C0 hW hS (k := pl + 11) (N := 11) (by omega) hq11 upS_eq (show vin (9 : Int32) 11 from by decide) dX8_init_491 (fun H locs hW hS => ?_)
  rw [upS_up] at hW
  refine lv_dup hx hb dX8_init_492 rfl ?_
  refine lv_bipush (v := (10 : Int32)) hx hb dX8_init_493 (by decide) ?_
  refine lv_bipush (v := (57 : Int32)) hx hb dX8_init_495 (by decide) ?_
  refine ws_iast C0 hW hS (k := pl + 11) (N := 11) (by omega) hq11 upS_eq (show vin (10 : Int32) 11 from by decide) dX8_init_497 (fun H locs hW hS => ?_)
  rw [upS_up] at hW
  have hW := ws_congr (nf_push (by omega) (by first | rfl | (rw [show pl + 11 - pl = 11 by omega]; rfl))) hW
  refine ws_putF C0 hm hW hS inAX8 tyX8 tyX8_ok nmX8 (show CL[12]? = some (RX8, TX8, 23) from rfl) (k := pl) (fs := [.inl (pl + 1), .inl (pl + 2), .inl (pl + 3), .inl (pl + 4), zI, .inl (pl + 5), zI, .inr (.int (-1 : Int32)), .inr (.int (-1 : Int32)), zI, .inl (pl + 6), zI, .inl (pl + 7), .inl (pl + 8), .inl (pl + 9), zI, .inl (pl + 10), nuL, nuL, zI, zI, zI, zI]) (by omega) hh nf_at 17 (by decide) zt_1568 rfl rfl rfl (ty := .array .int) (pl + 11) (by omega) hq11 (by decide +kernel) rfl rfl (Nat.le_of_ble_eq_true rfl) dX8_init_498 (fun H locs hW hS => ?_)
  rw [nf_put] at hW
  refine lv_aload_n hx hb dX8_init_501 rfl (lv_at hl 0 rfl) ?_
  refine lv_sipush (v := (305 : Int32)) hx hb dX8_init_502 (by decide) ?_
  refine ws_newa C0 hW hS (atype := .int) (ty := .int) zt_56 rfl 0 rfl (fun _ _ h => h) (305, .inl (fun _ => 0)) (fun _ => rfl) (by decide) (by decide) (by decide) (by decide) (by decide) dX8_init_505 (fun q12 H hW hS => ?_)
  have hW := ws_congr (nf_push (by omega) (by first | rfl | (rw [show pl + 12 - pl = 12 by omega]; rfl))) hW
  have hh : h = upA ad11 (pl + 12) q12 (pl) := by rw [upA_lt (by omega)]; exact hh
  have hq12 : q12 = upA ad11 (pl + 12) q12 (pl + 12) := upA_eq.symm
  have had : ∀ k, k < pl + 1 → upA ad11 (pl + 12) q12 k = ad k := fun k hk => (upA_lt (by omega)).trans (had k hk)
  generalize upA ad11 (pl + 12) q12 = ad12 at *
  refine ws_putF C0 hm hW hS inAX8 tyX8 tyX8_ok nmX8 (show CL[12]? = some (RX8, TX8, 23) from rfl) (k := pl) (fs := [.inl (pl + 1), .inl (pl + 2), .inl (pl + 3), .inl (pl + 4), zI, .inl (pl + 5), zI, .inr (.int (-1 : Int32)), .inr (.int (-1 : Int32)), zI, .inl (pl + 6), zI, .inl (pl + 7), .inl (pl + 8), .inl (pl + 9), zI, .inl (pl + 10), .inl (pl + 11), nuL, zI, zI, zI, zI]) (by omega) hh nf_at 18 (by decide) zt_1569 rfl rfl rfl (ty := .array .int) (pl + 12) (by omega) hq12 (by decide +kernel) rfl rfl (Nat.le_of_ble_eq_true rfl) dX8_init_507 (fun H locs hW hS => ?_)
  rw [nf_put] at hW
  exact ws_vret C0 (ws_congr (fun k _ => nf_to (B := modB Y pl) rfl (fun j hj => if_neg (by omega)) k) hW) had hS (by decide) (by decide) dX8_init_510
