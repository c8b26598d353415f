/-! how far: two ways to the same least way -/
def eg (N : Nat → Nat) (u v w : Nat) : Prop := ∃ l, l < N 2 ∧ w = N (13 + 3 * l) ∧ ((N (11 + 3 * l) = u ∧ N (12 + 3 * l) = v) ∨ (N (12 + 3 * l) = u ∧ N (11 + 3 * l) = v))
theorem eg_b {N : Nat → Nat} (ok : nOk N) {u v w : Nat} (h : eg N u v w) : u < N 0 ∧ v < N 0 ∧ u ≠ v ∧ 1 ≤ w ∧ w ≤ 9 := by
  obtain ⟨l, hl, rfl, h⟩ := h
  obtain ⟨c1, c2, c3, c4, c5⟩ := ok.2.2.2.2.2.2.1 l hl
  rcases h with ⟨rfl, rfl⟩ | ⟨rfl, rfl⟩
  · exact ⟨c1, c2, c3, c4, c5⟩
  · exact ⟨c2, c1, fun hh => c3 hh.symm, c4, c5⟩
/-- one round of the reference -/
def fwS (A : Nat → Nat) (k : Nat) : Nat → Nat := fun i => min (A i) (A (6 * (i / 6) + k) + A (6 * k + i % 6))
theorem fwS_at {A : Nat → Nat} {k i j : Nat} (hj : j < 6) : fwS A k (6 * i + j) = min (A (6 * i + j)) (A (6 * i + k) + A (6 * k + j)) := by
  unfold fwS
  rw [show (6 * i + j) / 6 = i by omega, show (6 * i + j) % 6 = j by omega]
def fwI (N : Nat → Nat) (A : Nat → Nat) (k : Nat) : Prop :=
  (∀ i, i < 6 → A (6 * i + i) = 0) ∧ (∀ i, i < 36 → A i ≤ 1000000) ∧ (∀ q, q < k → ∀ i, i < 6 → ∀ j, j < 6 → A (6 * i + j) ≤ A (6 * i + q) + A (6 * q + j)) ∧
  (∀ i, i < 6 → ∀ j, j < 6 → i ≠ j → A (6 * i + j) < 1000000 → ∃ u w, eg N u j w ∧ A (6 * i + u) + w ≤ A (6 * i + j)) ∧ (∀ u v w, eg N u v w → A (6 * u + v) ≤ w)
theorem fwI_st {N A : Nat → Nat} (ok : nOk N) {k : Nat} (hk : k < 6) (h : fwI N A k) : fwI N (fwS A k) (k + 1) := by
  have b0 := ok.1
  obtain ⟨h1, h2, h3, h4, h5⟩ := h
  have kk := h1 k hk
  refine ⟨fun i hi => ?_, fun i hi => ?_, fun q hq i hi j hj => ?_, fun i hi j hj hne hlt => ?_, fun u v w he => ?_⟩
  · rw [fwS_at hi, h1 i hi]; omega
  · have := h2 i hi
    unfold fwS; omega
  · rw [fwS_at hj, fwS_at (show q < 6 by omega), fwS_at hj]
    by_cases hqk : q = k
    · subst hqk; omega
    · have a1 := h3 q (by omega) i hi j hj
      have a2 := h3 q (by omega) k hk j hj
      have a3 := h3 q (by omega) i hi k hk
      omega
  · rw [fwS_at hj] at hlt ⊢
    by_cases hc : A (6 * i + j) ≤ A (6 * i + k) + A (6 * k + j)
    · obtain ⟨u, w, e1, e2⟩ := h4 i hi j hj hne (by omega)
      have := (eg_b ok e1).1
      refine ⟨u, w, e1, ?_⟩
      rw [fwS_at (show u < 6 by omega)]; omega
    · by_cases hkj : k = j
      · subst hkj; omega
      · obtain ⟨u, w, e1, e2⟩ := h4 k hk j hj hkj (by omega)
        have := (eg_b ok e1).1
        refine ⟨u, w, e1, ?_⟩
        rw [fwS_at (show u < 6 by omega)]; omega
  · have := h5 u v w he
    have := (eg_b ok he).2.1
    rw [fwS_at (show v < 6 by omega)]; omega
/-- a least way from a, as the reference finds it -/
def dOkD (N D : Nat → Nat) (a : Nat) : Prop := D a = 0 ∧ (∀ u v w, eg N u v w → D v ≤ D u + w) ∧ (∀ v, v < 6 → v ≠ a → D v < 1000000 → ∃ u w, eg N u v w ∧ D u + w ≤ D v) ∧ (∀ v, v < 6 → D v ≤ 1000000)
theorem fwI_D {N A : Nat → Nat} (ok : nOk N) {a : Nat} (ha : a < 6) (h : fwI N A 6) : dOkD N (fun v => A (6 * a + v)) a := by
  have b0 := ok.1
  obtain ⟨h1, h2, h3, h4, h5⟩ := h
  refine ⟨h1 a ha, fun u v w he => ?_, fun v hv hne hlt => h4 a ha v hv (Ne.symm hne) hlt, fun v hv => h2 _ (by omega)⟩
  obtain ⟨e1, e2, -, -, -⟩ := eg_b ok he
  have := h5 u v w he
  have := h3 u (by omega) a ha v (by omega)
  show A (6 * a + v) ≤ A (6 * a + u) + w
  omega
/-- the class's row of what it has found -/
def shW (P : Nat → Option Nat) (v p w : Nat) : Prop := P v = none ∨ ∃ q, P v = some q ∧ p + w < q
def dcP (P P' : Nat → Option Nat) : Prop := ∀ v q, P v = some q → ∃ q', P' v = some q' ∧ q' ≤ q
theorem dcP.rf {P : Nat → Option Nat} : dcP P P := fun _ q h => ⟨q, h, Nat.le_refl _⟩
theorem dcP.tr {P P' P'' : Nat → Option Nat} (h : dcP P P') (h' : dcP P' P'') : dcP P P'' := fun v q e => by
  obtain ⟨q1, e1, l1⟩ := h v q e
  obtain ⟨q2, e2, l2⟩ := h' v q1 e1
  exact ⟨q2, e2, by omega⟩
def sdP (D : Nat → Nat) (P : Nat → Option Nat) (B : Nat) : Prop := ∀ v q, P v = some q → D v ≤ q ∧ q ≤ B
def ranks (D : Nat → Nat) (k v : Nat) : Nat := ctn (fun u => decide (D u < D v)) k
theorem ctn_lt {f g : Nat → Bool} {a : Nat} : ∀ {k : Nat}, a < k → f a = false → g a = true → (∀ i, i < k → f i = true → g i = true) → ctn f k < ctn g k := by
  intro k
  induction k with
  | zero => intro h; omega
  | succ k ih =>
    intro h hf hg he
    have mono : ∀ {k : Nat}, (∀ i, i < k → f i = true → g i = true) → ctn f k ≤ ctn g k := by
      intro k
      induction k with
      | zero => intro _; exact Nat.le_refl _
      | succ k ih =>
        intro he
        have := ih (fun i hi => he i (by omega))
        simp only [ctn]
        by_cases hk : f k = true
        · rw [if_pos hk, if_pos (he k (by omega) hk)]; omega
        · rw [if_neg hk]; split <;> omega
    simp only [ctn]
    by_cases hk : a = k
    · subst hk
      have := @mono a (fun i hi => he i (by omega))
      rw [hf, hg]; simp; omega
    · have := ih (by omega) hf hg (fun i hi => he i (by omega))
      by_cases hk : f k = true
      · rw [if_pos hk, if_pos (he k (by omega) hk)]; omega
      · rw [if_neg hk]; split <;> omega
theorem ranks_lt {D : Nat → Nat} {k u v : Nat} (hu : u < k) (h : D u < D v) : ranks D k u < ranks D k v :=
  ctn_lt (a := u) hu (by simp) (by simp [h]) (fun i _ hi => by simp at hi ⊢; omega)
theorem ranks_k {D : Nat → Nat} {k v : Nat} (hv : v < k) : ranks D k v < k := by
  unfold ranks
  refine Nat.lt_of_le_of_ne (ctn_le _ _) (fun hh => ?_)
  have := ctn_all hh v hv
  simp at this
/-- all of a rank are found -/
def stP (N D : Nat → Nat) (P : Nat → Option Nat) (r : Nat) : Prop := ∀ v, v < N 0 → D v < 1000000 → ranks D (N 0) v ≤ r → P v = some (D v)
theorem st_0 {N D : Nat → Nat} (ok : nOk N) {a : Nat} (ha : a < N 0) (h : dOkD N D a) : stP N D (fun v => if v = a then some 0 else none) 0 := by
  have b0 := ok.1
  intro v hv hlt hr
  by_cases hva : v = a
  · subst hva; simp only [if_pos rfl]; rw [h.1]; rfl
  · obtain ⟨u, w, e1, e2⟩ := h.2.2.1 v (by omega) hva hlt
    obtain ⟨f1, f2, f3, f4, f5⟩ := eg_b ok e1
    have := ranks_lt (D := D) f1 (show D u < D v by omega)
    omega
theorem st_s {N D : Nat → Nat} (ok : nOk N) {a r B : Nat} (h : dOkD N D a) {P P' : Nat → Option Nat} (hs : stP N D P r) (hd : dcP P P') (hp : ∀ u v w, eg N u v w → ∀ p, P u = some p → ∃ q, P' v = some q ∧ q ≤ p + w) (hsd : sdP D P' B) (hPa : P a = some 0) : stP N D P' (r + 1) := by
  have b0 := ok.1
  intro v hv hlt hr
  by_cases hva : v = a
  · subst hva
    obtain ⟨q, e1, e2⟩ := hd _ _ hPa
    have := (hsd _ _ e1).1
    rw [e1]; congr 1; omega
  · obtain ⟨u, w, e1, e2⟩ := h.2.2.1 v (by omega) hva hlt
    obtain ⟨f1, f2, f3, f4, f5⟩ := eg_b ok e1
    have := ranks_lt (D := D) f1 (show D u < D v by omega)
    have pu := hs u f1 (by omega) (by omega)
    obtain ⟨q, g1, g2⟩ := hp u v w e1 _ pu
    have := (hsd _ _ g1).1
    rw [g1]; congr 1; omega
theorem st_end {N D : Nat → Nat} (ok : nOk N) {b B : Nat} (hB : B < 1000000) (hb : b < N 0) {P : Nat → Option Nat} (hs : stP N D P (N 0 - 1)) (hsd : sdP D P B) : (D b < 1000000 ∧ P b = some (D b)) ∨ (1000000 ≤ D b ∧ P b = none) := by
  have b0 := ok.1
  have rk := ranks_k (D := D) hb
  by_cases hlt : D b < 1000000
  · exact Or.inl ⟨hlt, hs b hb hlt (by omega)⟩
  · refine Or.inr ⟨by omega, ?_⟩
    cases hq : P b with
    | none => rfl
    | some q =>
      have := hsd b q hq
      omega
