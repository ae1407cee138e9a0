/-! The relation of the law's loop: A is the state, S the saved one, Bf the history, oldest first. -/
abbrev st8 (o j : Int) : Nat := 3 + ((o + j) % 8).toNat
def Lk (p h : Int) (A S : Int → Int) (Bf : Int → Int → Int) (o c v : Int) : Prop := Ok p h A ∧ 0 ≤ o ∧ o < 8 ∧ 0 ≤ c ∧ c ≤ 8 ∧ (∀ j, 0 ≤ j → j < c → Ok p h (Bf j)) ∧ (v = 0 ∨ v = 1) ∧ (v = 1 → Ok p h S)
def Lc (M : Mem) (A S : Int → Int) (Bf : Int → Int → Int) (o c v : Int) : Prop := Cl M 0 A ∧ (∀ s, s ≤ 10 → Rw M s) ∧ M 11 0 1 = iZ o ∧ M 11 0 2 = iZ c ∧ (∀ j, 0 ≤ j → j < c → Cl M (st8 o j) (Bf j)) ∧ M 0 0 3 = iZ v ∧ (v = 1 → Cl M 2 S)
def Lr (M : Mem) (A S : Int → Int) (Bf : Int → Int → Int) (c v : Int) : Prop := M 21 0 = rz A ∧ M 24 0 = rz S ∧ (∃ B, M 25 0 = rz B ∧ ∀ i, 0 ≤ i → i < c → ∀ j, 0 ≤ j → j < 192 → B (192 * i + j) = Bf i j) ∧ M 20 0 6 = iZ c ∧ M 20 0 4 = iZ v
/-- the input buffer, of both -/
def Lb (M : Mem) (m : Int) (T : Int → Int) : Prop := 0 ≤ m ∧ m ≤ 60 ∧ M 13 0 1 = iZ m ∧ M 20 0 11 = iZ m ∧ ∀ j, 0 ≤ j → j < m → 32 ≤ T j ∧ T j ≤ 126 ∧ M 14 0 j.toNat = iZ (T j) ∧ M 26 0 j.toNat = iZ (T j)
/-- the line, of both -/
def Ln (M : Mem) (l q : Int) (T : Int → Int) : Prop := 0 ≤ l ∧ l ≤ q ∧ l ≤ 34 ∧ (q = 16 ∨ q = 34) ∧ M 19 0 3 = iZ l ∧ M 20 0 15 = iZ l ∧ M 34 0 100000 = iZ q ∧ ∀ j, 0 ≤ j → j < l → 32 ≤ T j ∧ T j ≤ 126 ∧ M 34 0 j.toNat = iZ (T j) ∧ M 29 0 j.toNat = iZ (T j)
def Lx (M : Mem) : Prop := (∃ m T, Lb M m T) ∧ (∃ l q T, Ln M l q T) ∧ M 0 0 9 = M 20 0 7 ∧ M 0 0 10 = M 20 0 8 ∧ M 30 0 = letF ∧ M 31 0 = begF
def Rl (n : Int) (M : Mem) : Prop := ∃ A S Bf o c v, Lk (10 * n) (1200 * n) A S Bf o c v ∧ Lc M A S Bf o c v ∧ Lr M A S Bf c v ∧ Lx M
theorem Lk.mono {p h p2 h2 : Int} {A S : Int → Int} {Bf : Int → Int → Int} {o c v : Int} (hK : Lk p h A S Bf o c v) (hp : p ≤ p2) (hh : h ≤ h2) : Lk p2 h2 A S Bf o c v := by
  obtain ⟨h1, h2, h3, h4, h5, h6, h7, h8⟩ := hK
  exact ⟨h1.mono hp hh, h2, h3, h4, h5, fun j j0 j1 => (h6 j j0 j1).mono hp hh, h7, fun hv => (h8 hv).mono hp hh⟩
theorem Lc.of {M M2 : Mem} {A S : Int → Int} {Bf : Int → Int → Int} {o c v : Int} (h : ∀ a i k, (a = 0 ∧ k = 3) ∨ a = 1 ∨ a = 2 ∨ a = 4 ∨ a = 5 ∨ a = 6 ∨ a = 11 → M2 a i k = M a i k) (hL : Lc M A S Bf o c v) : Lc M2 A S Bf o c v := by
  obtain ⟨h1, h2, h3, h4, h5, h6, h7⟩ := hL
  have hr : ∀ a i, a = 1 ∨ a = 2 ∨ a = 4 ∨ a = 5 ∨ a = 6 → M2 a i = M a i := fun a i ha => funext fun k => h a i k (by omega)
  exact ⟨Cl_rows hr h1, fun s hs => Rw_rows (hr 5 s (by omega)) (h2 s hs), by rw [h 11 0 1 (by omega)]; exact h3, by rw [h 11 0 2 (by omega)]; exact h4, fun j j0 j1 => Cl_rows hr (h5 j j0 j1), by rw [h 0 0 3 (by omega)]; exact h6, fun hv => Cl_rows hr (h7 hv)⟩
theorem Lr.of {M M2 : Mem} {A S : Int → Int} {Bf : Int → Int → Int} {c v : Int} (h : ∀ a i k, a = 21 ∨ a = 24 ∨ a = 25 ∨ (a = 20 ∧ (k = 4 ∨ k = 6)) → M2 a i k = M a i k) (hL : Lr M A S Bf c v) : Lr M2 A S Bf c v := by
  obtain ⟨h1, h2, ⟨B, h3, h3'⟩, h4, h5⟩ := hL
  have hr : ∀ a i, a = 21 ∨ a = 24 ∨ a = 25 → M2 a i = M a i := fun a i ha => funext fun k => h a i k (by omega)
  exact ⟨by rw [hr 21 0 (by omega)]; exact h1, by rw [hr 24 0 (by omega)]; exact h2, ⟨B, by rw [hr 25 0 (by omega)]; exact h3, h3'⟩, by rw [h 20 0 6 (by omega)]; exact h4, by rw [h 20 0 4 (by omega)]; exact h5⟩
theorem Lb.of {M M2 : Mem} {m : Int} {T : Int → Int} (h : ∀ a i k, (a = 13 ∧ k = 1) ∨ a = 14 ∨ a = 26 ∨ (a = 20 ∧ k = 11) → M2 a i k = M a i k) (hL : Lb M m T) : Lb M2 m T := by
  obtain ⟨h1, h2, h3, h4, h5⟩ := hL
  exact ⟨h1, h2, by rw [h 13 0 1 (by omega)]; exact h3, by rw [h 20 0 11 (by omega)]; exact h4, fun j j0 j1 => by rw [h 14 0 _ (by omega), h 26 0 _ (by omega)]; exact h5 j j0 j1⟩
theorem Ln.of {M M2 : Mem} {l q : Int} {T : Int → Int} (h : ∀ a i k, a = 19 ∨ a = 34 ∨ a = 29 ∨ (a = 20 ∧ k = 15) → M2 a i k = M a i k) (hL : Ln M l q T) : Ln M2 l q T := by
  obtain ⟨h1, h2, h3, h4, h5, h6, h7, h8⟩ := hL
  exact ⟨h1, h2, h3, h4, by rw [h 19 0 3 (by omega)]; exact h5, by rw [h 20 0 15 (by omega)]; exact h6, by rw [h 34 0 _ (by omega)]; exact h7, fun j j0 j1 => by rw [h 34 0 _ (by omega), h 29 0 _ (by omega)]; exact h8 j j0 j1⟩
def Fx (M M2 : Mem) : Prop := ∀ a i k, (a = 0 ∧ (k = 9 ∨ k = 10)) ∨ (a = 13 ∧ k = 1) ∨ a = 14 ∨ a = 19 ∨ a = 26 ∨ a = 29 ∨ a = 30 ∨ a = 31 ∨ a = 34 ∨ (a = 20 ∧ (k = 7 ∨ k = 8 ∨ k = 11 ∨ k = 15)) → M2 a i k = M a i k
theorem Lx.of {M M2 : Mem} (h : Fx M M2) (hL : Lx M) : Lx M2 := by
  obtain ⟨⟨m, T, h1⟩, ⟨l, q, T2, h2⟩, h3, h4, h5, h6⟩ := hL
  have hr : ∀ a i, a = 30 ∨ a = 31 → M2 a i = M a i := fun a i ha => funext fun k => h a i k (by omega)
  exact ⟨⟨m, T, h1.of (fun a i k hc => h a i k (by omega))⟩, ⟨l, q, T2, h2.of (fun a i k hc => h a i k (by omega))⟩, by rw [h 0 0 9 (by omega), h 20 0 7 (by omega)]; exact h3, by rw [h 0 0 10 (by omega), h 20 0 8 (by omega)]; exact h4, by rw [hr 30 0 (by omega)]; exact h5, by rw [hr 31 0 (by omega)]; exact h6⟩
/-- a question changes what both work with, no more -/
def Qt (M M2 : Mem) : Prop := ∀ a i k, ¬ (a = 8 ∨ a = 9 ∨ a = 10 ∨ a = 18 ∨ a = 27 ∨ a = 28 ∨ a = 33 ∨ a = 36 ∨ (a = 20 ∧ k = 9)) → M2 a i k = M a i k
theorem Qt.rfl' (M : Mem) : Qt M M := fun _ _ _ _ => rfl
theorem Qt.tr {M M2 M3 : Mem} (h : Qt M M2) (h2 : Qt M2 M3) : Qt M M3 := fun a i k hp => (h2 a i k hp).trans (h a i k hp)
theorem Rl.qt {n : Int} {M M2 : Mem} (hQ : Qt M M2) (hR : Rl n M) : Rl (n + 1) M2 := by
  obtain ⟨A, S, Bf, o, c, v, h1, h2, h3, h4⟩ := hR
  exact ⟨A, S, Bf, o, c, v, h1.mono (by omega) (by omega), h2.of (fun a i k hc => hQ a i k (by omega)), h3.of (fun a i k hc => hQ a i k (by omega)), h4.of (fun a i k hc => hQ a i k (by omega))⟩
/-- another service's state stays -/
def FS2 (s : Nat) (M M2 : Mem) : Prop := ∀ a i, ¬ own s a i → a ≠ 11 → M2 a i = M a i
theorem FS.two {s : Nat} {M M2 : Mem} (h : FS s M M2) : FS2 s M M2 := fun a i hn _ => h a i hn
theorem Rw_FS {s t : Nat} {M M2 : Mem} (hst : s ≠ t) (hF : FS2 s M M2) (hR : Rw M t) : Rw M2 t := Rw_rows (hF 5 t (by unfold own; omega) (by omega)) hR
theorem Cl_FS {p h : Int} {A : Int → Int} (hO : Ok p h A) {s t : Nat} {M M2 : Mem} (hst : s ≠ t) (hF : FS2 s M M2) (hR : Rw M t) (hC : Cl M t A) : Cl M2 t A := by
  have o3 := hO.2.2.1
  have o4 := hO.2.2.2.1
  have o5 := hO.2.2.2.2.1
  have o6 := hO.2.2.2.2.2.1
  obtain ⟨c0, c1, c2, c3, c4, c5, c6, c7, cl, cp⟩ := hC
  have h1 := hF 1 t (by unfold own; omega) (by omega)
  have h2 := hF 2 t (by unfold own; omega) (by omega)
  have h5 := hF 5 t (by unfold own; omega) (by omega)
  refine ⟨by rw [h2]; exact c0, by rw [h2]; exact c1, by rw [h1]; exact c2, by rw [h1]; exact c3, by rw [h1]; exact c4, by rw [h1]; exact c5, by rw [h1]; exact c6, by rw [h1]; exact c7, fun k k0 k1 => ?_, fun k k0 k1 => ?_⟩
  · rw [hF 4 (20 * t + k.toNat) (by unfold own; omega) (by omega)]
    exact cl k k0 k1
  · have hr := hR.1 k k0 (by omega)
    rw [h5, hF 6 (ix (M 5 t k.toNat)) (by unfold own; omega) (by omega)]
    exact cp k k0 k1
