/-! Ways through a network: N places, L links from s to d, u says which may be used, g when one arrives. -/
theorem sF_up {f f2 : Int → Int} {e : Int} (hf : ∀ k, k ≠ e → f2 k = f k) : ∀ (n : Nat) (i : Int), i ≤ e → e < i + n → sF f2 n i = sF f n i - f e + f2 e := by
  intro n
  induction n with
  | zero => intro i h1 h2; omega
  | succ n ih =>
    intro i h1 h2
    unfold sF
    by_cases h : i = e
    · subst h
      rw [sF_cg n (i + 1) (fun k a b => hf k (by omega))]
      omega
    · rw [hf i h, ih (i + 1) (by omega) (by omega)]
      omega
def Rc (L : Int) (s d : Int → Int) (u : Int → Prop) (g : Int → Int → Int) (o h : Int) : Nat → Int → Int → Prop
  | 0, v, t => v = o ∧ t = h
  | n + 1, v, t => ∃ k t2, 0 ≤ k ∧ k < L ∧ u k ∧ d k = v ∧ Rc L s d u g o h n (s k) t2 ∧ t = g k t2
def Gr (N L c : Int) (s d : Int → Int) (g : Int → Int → Int) : Prop := N ≤ 9 ∧ 0 ≤ c ∧ (∀ k, 0 ≤ k → k < L → 0 ≤ s k ∧ s k < N ∧ 0 ≤ d k ∧ d k < N) ∧ (∀ k t, 0 ≤ k → k < L → t < g k t ∧ g k t ≤ t + c) ∧ ∀ k t t2, 0 ≤ k → k < L → t ≤ t2 → g k t ≤ g k t2
def cN (F : Int) (D : Int → Int) : Int := sF (fun v => if D v < F then 1 else 0) 9 0
def pH (F h w : Int) (D : Int → Int) : Int := sF (fun v => if D v < F then D v - h else w) 9 0
def Iv (L c : Int) (s d : Int → Int) (u : Int → Prop) (g : Int → Int → Int) (o h F : Int) (D : Int → Int) : Prop :=
  D o ≤ h ∧ ∀ v, 0 ≤ v → v < 9 → D v ≤ F ∧ (D v < F → h ≤ D v ∧ D v ≤ h + c * cN F D - c ∧ ∃ n, Rc L s d u g o h n v (D v))
theorem cN_9 (F : Int) (D : Int → Int) : cN F D ≤ 9 := by
  have := sF_le (f := fun v => if D v < F then 1 else 0) (b := 1) 9 0 (fun k _ _ => by show (if D k < F then (1 : Int) else 0) ≤ 1; split <;> omega)
  unfold cN
  omega
theorem Iv.top {L c : Int} {s d : Int → Int} {u : Int → Prop} {g : Int → Int → Int} {o h F : Int} {D : Int → Int} (hc : 0 ≤ c) (hI : Iv L c s d u g o h F D) {v : Int} (h0 : 0 ≤ v) (h1 : v < 9) (hD : D v < F) : D v ≤ h + c * 8 := by
  have h2 := (hI.2 v h0 h1).2 hD
  have h3 := Int.mul_le_mul_of_nonneg_left (cN_9 F D) hc
  omega
theorem Iv.relax {N L c : Int} {s d : Int → Int} {u : Int → Prop} {g : Int → Int → Int} {o h F w : Int} {D : Int → Int} (hG : Gr N L c s d g) (hw : c * 8 < w) (hI : Iv L c s d u g o h F D) {k : Int} (h0 : 0 ≤ k) (h1 : k < L) (hu : u k) (hs : D (s k) < F) (ht : g k (D (s k)) < D (d k)) :
    Iv L c s d u g o h F (uI D (d k) (g k (D (s k)))) ∧ pH F h w (uI D (d k) (g k (D (s k)))) < pH F h w D := by
  obtain ⟨hN, hc, hr, hg, hm⟩ := hG
  obtain ⟨r1, r2, r3, r4⟩ := hr k h0 h1
  obtain ⟨g1, g2⟩ := hg k (D (s k)) h0 h1
  obtain ⟨i1, i2⟩ := id hI
  have e1 := i2 (s k) r1 (by omega)
  have e2 := i2 (d k) r3 (by omega)
  have e3 := e1.2 hs
  have top := hI.top hc r1 (by omega) hs
  have hcn : cN F (uI D (d k) (g k (D (s k)))) = cN F D - (if D (d k) < F then 1 else 0) + 1 := by
    unfold cN
    rw [sF_up (f := fun v => if D v < F then 1 else 0) (e := d k) (fun j hj => by show (if uI D (d k) (g k (D (s k))) j < F then (1 : Int) else 0) = _; rw [uI_ne _ _ hj]) 9 0 (by omega) (by omega)]
    rw [uI_eq, if_pos (show g k (D (s k)) < F by omega)]
  have hle : c * cN F D ≤ c * cN F (uI D (d k) (g k (D (s k)))) := Int.mul_le_mul_of_nonneg_left (by rw [hcn]; split <;> omega) hc
  refine ⟨⟨?_, fun v v0 v1 => ?_⟩, ?_⟩
  · by_cases ho : o = d k
    · have : D (d k) ≤ h := ho ▸ i1
      rw [ho, uI_eq]; omega
    · rw [uI_ne _ _ ho]; exact i1
  · by_cases hv : v = d k
    · subst hv
      rw [uI_eq]
      refine ⟨by omega, fun _ => ⟨by omega, ?_, ?_⟩⟩
      · by_cases hd : D (d k) < F
        · have := (e2.2 hd).2.1
          omega
        · rw [if_neg hd] at hcn
          rw [hcn, show cN F D - 0 + 1 = cN F D + 1 by omega, Int.mul_add]
          omega
      · obtain ⟨n, hn⟩ := e3.2.2
        exact ⟨n + 1, k, D (s k), h0, h1, hu, rfl, hn, rfl⟩
    · rw [uI_ne _ _ hv]
      refine ⟨(i2 v v0 v1).1, fun hf => ?_⟩
      obtain ⟨a1, a2, a3⟩ := (i2 v v0 v1).2 hf
      exact ⟨a1, by omega, a3⟩
  · unfold pH
    rw [sF_up (f := fun v => if D v < F then D v - h else w) (e := d k) (fun j hj => by show (if uI D (d k) (g k (D (s k))) j < F then _ else w) = _; rw [uI_ne _ _ hj]) 9 0 (by omega) (by omega)]
    rw [uI_eq, if_pos (show g k (D (s k)) < F by omega)]
    by_cases hd : D (d k) < F
    · rw [if_pos hd]; omega
    · have := e3.2.1
      have h5 : c * cN F D ≤ c * 8 := by
        by_cases h8 : cN F D ≤ 8
        · exact Int.mul_le_mul_of_nonneg_left h8 hc
        · exfalso
          rw [if_neg hd] at hcn
          have := cN_9 F (uI D (d k) (g k (D (s k))))
          omega
      rw [if_neg hd]; omega
/-- the earliest at v: far, or reached and never sooner -/
def Ea (L : Int) (s d : Int → Int) (u : Int → Prop) (g : Int → Int → Int) (o h F v e : Int) : Prop := (e = F ∧ ∀ n t, ¬ Rc L s d u g o h n v t) ∨ (e < F ∧ (∃ n, Rc L s d u g o h n v e) ∧ ∀ n t, Rc L s d u g o h n v t → e ≤ t)
theorem Ea.uniq {L : Int} {s d : Int → Int} {u : Int → Prop} {g : Int → Int → Int} {o h F v e e2 : Int} (h1 : Ea L s d u g o h F v e) (h2 : Ea L s d u g o h F v e2) : e = e2 := by
  rcases h1 with ⟨a1, a2⟩ | ⟨a1, ⟨n, a2⟩, a3⟩
  · rcases h2 with ⟨b1, b2⟩ | ⟨b1, ⟨m, b2⟩, b3⟩
    · omega
    · exact absurd b2 (a2 _ _)
  · rcases h2 with ⟨b1, b2⟩ | ⟨b1, ⟨m, b2⟩, b3⟩
    · exact absurd a2 (b2 _ _)
    · have := a3 _ _ b2; have := b3 _ _ a2; omega
/-- closed under every link -/
def Cd (L : Int) (s d : Int → Int) (u : Int → Prop) (g : Int → Int → Int) (F : Int) (D : Int → Int) : Prop := ∀ k, 0 ≤ k → k < L → u k → D (s k) < F → D (d k) ≤ g k (D (s k))
theorem Iv.low {N L c : Int} {s d : Int → Int} {u : Int → Prop} {g : Int → Int → Int} {o h F : Int} {D : Int → Int} (hG : Gr N L c s d g) (ho : 0 ≤ o) (ho2 : o < N) (hF : h + c * 8 + c < F) (hI : Iv L c s d u g o h F D) (hC : Cd L s d u g F D) :
    ∀ n v t, Rc L s d u g o h n v t → 0 ≤ v ∧ v < N ∧ D v < F ∧ D v ≤ t := by
  obtain ⟨hN, hc, hr, hg, hm⟩ := hG
  have h8 : 0 ≤ c * 8 := by omega
  intro n
  induction n with
  | zero => rintro v t ⟨rfl, rfl⟩; have := hI.1; exact ⟨ho, ho2, by omega, by omega⟩
  | succ n ih =>
    rintro v t ⟨k, t2, k0, k1, hu, rfl, hR, rfl⟩
    obtain ⟨a1, a2, a3, a4⟩ := ih _ _ hR
    obtain ⟨r1, r2, r3, r4⟩ := hr k k0 k1
    have h2 := hC k k0 k1 hu a3
    have h3 := hm k _ _ k0 k1 a4
    have h4 := hg k (D (s k)) k0 k1
    have h5 := hI.top hc a1 (by omega) a3
    exact ⟨r3, r4, by omega, by omega⟩
theorem Iv.ea {N L c : Int} {s d : Int → Int} {u : Int → Prop} {g : Int → Int → Int} {o h F : Int} {D : Int → Int} (hG : Gr N L c s d g) (ho : 0 ≤ o) (ho2 : o < N) (hF : h + c * 8 + c < F) (hI : Iv L c s d u g o h F D) (hC : Cd L s d u g F D) {v : Int} (h0 : 0 ≤ v) (h1 : v < 9) : Ea L s d u g o h F v (D v) := by
  have hl := hI.low hG ho ho2 hF hC
  have hv := hI.2 v h0 h1
  by_cases hD : D v < F
  · exact .inr ⟨hD, (hv.2 hD).2.2, fun n t hR => (hl n v t hR).2.2.2⟩
  · exact .inl ⟨by omega, fun n t hR => hD (hl n v t hR).2.2.1⟩
def Iv0 (F o h : Int) : Int → Int := uI (fun _ => F) o h
theorem Iv0_iv {L c : Int} {s d : Int → Int} {u : Int → Prop} {g : Int → Int → Int} {o h F : Int} (ho : 0 ≤ o) (ho2 : o < 9) (hF : h < F) : Iv L c s d u g o h F (Iv0 F o h) := by
  have hcn : cN F (Iv0 F o h) = 1 := by
    unfold cN Iv0
    rw [sF_up (f := fun v => if (fun _ => F) v < F then 1 else 0) (e := o) (fun j hj => by show (if uI (fun _ => F) o h j < F then (1 : Int) else 0) = _; rw [uI_ne _ _ hj]) 9 0 (by omega) (by omega), uI_eq, if_pos hF]
    simp [sF]
  refine ⟨by unfold Iv0; rw [uI_eq]; exact Int.le_refl h, fun v h0 h1 => ?_⟩
  rw [hcn]
  unfold Iv0
  by_cases hv : v = o
  · subst hv; rw [uI_eq]; exact ⟨by omega, fun _ => ⟨by omega, by omega, 0, rfl, rfl⟩⟩
  · rw [uI_ne _ _ hv]; exact ⟨by omega, fun hx => absurd hx (by omega)⟩
theorem pH_0 {L c : Int} {s d : Int → Int} {u : Int → Prop} {g : Int → Int → Int} {o h F w : Int} {D : Int → Int} (hI : Iv L c s d u g o h F D) (hw : 0 ≤ w) : 0 ≤ pH F h w D := by
  refine sF_nn 9 0 (fun k k0 k1 => ?_)
  show 0 ≤ if D k < F then D k - h else w
  split
  · next hk => have := ((hI.2 k k0 (by omega)).2 hk).1; omega
  · exact hw
theorem pH_9 {L c : Int} {s d : Int → Int} {u : Int → Prop} {g : Int → Int → Int} {o h F w : Int} {D : Int → Int} (hc : 0 ≤ c) (hI : Iv L c s d u g o h F D) (hw : c * 8 ≤ w) : pH F h w D ≤ w * 9 := by
  refine sF_le 9 0 (fun k k0 k1 => ?_)
  show (if D k < F then D k - h else w) ≤ w
  split
  · next hk => have := hI.top hc k0 (by omega) hk; omega
  · exact Int.le_refl w
/-- there is one that is closed -/
theorem Iv.exi {N L c : Int} {s d : Int → Int} {u : Int → Prop} {g : Int → Int → Int} {o h F : Int} (hG : Gr N L c s d g) : ∀ (n : Nat) (D : Int → Int), pH F h (c * 8 + 1) D < n → Iv L c s d u g o h F D → ∃ D2, Iv L c s d u g o h F D2 ∧ Cd L s d u g F D2 := by
  intro n
  induction n with
  | zero =>
    intro D hp hI
    have := hG.2.1
    have := pH_0 hI (w := c * 8 + 1) (by omega)
    omega
  | succ n ih =>
    intro D hp hI
    by_cases hC : Cd L s d u g F D
    · exact ⟨D, hI, hC⟩
    · obtain ⟨k, hk⟩ := Classical.not_forall.mp hC
      by_cases h0 : 0 ≤ k <;> by_cases h1 : k < L <;> by_cases hu : u k <;> by_cases hs : D (s k) < F <;> by_cases ht : D (d k) ≤ g k (D (s k)) <;> try exact absurd (fun a b c e => by first | exact ht | exact absurd a h0 | exact absurd b h1 | exact absurd c hu | exact absurd e hs) hk
      have := hI.relax hG (show c * 8 < c * 8 + 1 by omega) h0 h1 hu hs (by omega)
      exact ih _ (by omega) this.1
theorem Ea_ex {N L c : Int} {s d : Int → Int} {u : Int → Prop} {g : Int → Int → Int} {o h F : Int} (hG : Gr N L c s d g) (ho : 0 ≤ o) (ho2 : o < N) (hF : h + c * 8 + c < F) : ∃ D : Int → Int, Iv L c s d u g o h F D ∧ Cd L s d u g F D ∧ ∀ v, 0 ≤ v → v < 9 → Ea L s d u g o h F v (D v) := by
  have hN := hG.1
  have hc := hG.2.1
  obtain ⟨D, h1, h2⟩ := Iv.exi hG _ (Iv0 F o h) (show pH F h (c * 8 + 1) (Iv0 F o h) < ((pH F h (c * 8 + 1) (Iv0 F o h)).toNat + 1 : Nat) by omega) (Iv0_iv (u := u) ho (by omega) (by omega))
  exact ⟨D, h1, h2, fun v a b => h1.ea hG ho ho2 hF h2 a b⟩
