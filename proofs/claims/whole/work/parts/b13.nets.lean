/-! reading: what a net's lines tell -/
def nP (N : Nat → Nat) (hi : Nat) : Prop :=
  (1 ≤ N 0 ∧ N 0 ≤ 6) ∧ (1 ≤ N 1 ∧ N 1 ≤ 99) ∧ N 2 ≤ 15 ∧ N 3 ≤ 12 ∧ N 4 ≤ 6 ∧ (∀ i, i < 6 → N (5 + i) ≤ 4) ∧
  (∀ l, l < N 2 → (N (11 + 3 * l) < 6 ∧ N (11 + 3 * l) ≤ hi) ∧ (N (12 + 3 * l) < 6 ∧ N (12 + 3 * l) ≤ hi) ∧ N (11 + 3 * l) ≠ N (12 + 3 * l) ∧ 1 ≤ N (13 + 3 * l) ∧ N (13 + 3 * l) ≤ 9) ∧
  (∀ l, l < N 2 → ∀ l', l' < l → ¬ (N (11 + 3 * l) = N (11 + 3 * l') ∧ N (12 + 3 * l) = N (12 + 3 * l')) ∧ ¬ (N (11 + 3 * l) = N (12 + 3 * l') ∧ N (12 + 3 * l) = N (11 + 3 * l'))) ∧
  (∀ k, k < N 3 → (N (56 + 4 * k) < 6 ∧ N (56 + 4 * k) ≤ hi) ∧ (0 < N (57 + 4 * k) ∧ N (57 + 4 * k) < 531441) ∧ ((N (58 + 4 * k) < 6 ∧ N (58 + 4 * k) ≤ hi) ∧ N (58 + 4 * k) ≠ N (56 + 4 * k)) ∧ N (59 + 4 * k) ≤ 99) ∧
  (∀ k, k < N 4 → (N (104 + 3 * k) < 6 ∧ N (104 + 3 * k) ≤ hi) ∧ (0 < N (105 + 3 * k) ∧ N (105 + 3 * k) < 531441) ∧ N (106 + 3 * k) ≤ 99)
theorem nP.up {N : Nat → Nat} {hi hi' : Nat} (v : nP N hi) (h : hi ≤ hi') : nP N hi' := by
  obtain ⟨v1, v2, v3, v4, v5, v6, v7, v8, v9, v10⟩ := v
  refine ⟨v1, v2, v3, v4, v5, v6, fun l hl => ?_, v8, fun k hk => ?_, fun k hk => ?_⟩
  · obtain ⟨⟨a1, a2⟩, ⟨a3, a4⟩, a5⟩ := v7 l hl
    exact ⟨⟨a1, by omega⟩, ⟨a3, by omega⟩, a5⟩
  · obtain ⟨⟨a1, a2⟩, a3, ⟨⟨a4, a5⟩, a6⟩, a7⟩ := v9 k hk
    exact ⟨⟨a1, by omega⟩, a3, ⟨⟨a4, by omega⟩, a6⟩, a7⟩
  · obtain ⟨⟨a1, a2⟩, a3⟩ := v10 k hk
    exact ⟨⟨a1, by omega⟩, a3⟩
theorem nP.ok {N : Nat → Nat} {hi : Nat} (v : nP N hi) (h : hi < N 0) : nOk N := by
  obtain ⟨v1, v2, v3, v4, v5, v6, v7, v8, v9, v10⟩ := v
  refine ⟨v1, v2, v3, v4, v5, v6, fun l hl => ?_, v8, fun k hk => ?_, fun k hk => ?_⟩
  · obtain ⟨⟨a1, a2⟩, ⟨a3, a4⟩, a5⟩ := v7 l hl
    exact ⟨by omega, by omega, a5⟩
  · obtain ⟨⟨a1, a2⟩, a3, ⟨⟨a4, a5⟩, a6⟩, a7⟩ := v9 k hk
    exact ⟨by omega, a3, ⟨by omega, a6⟩, a7⟩
  · obtain ⟨⟨a1, a2⟩, a3⟩ := v10 k hk
    exact ⟨by omega, a3⟩
theorem fN_co {P Q : Nat → Bool} : ∀ (d k : Nat), (∀ i, k ≤ i → i < k + d → P i = Q i) → fN P k d = fN Q k d := by
  intro d
  induction d with
  | zero => intro k _; rfl
  | succ d ih =>
    intro k h
    rw [fN, fN, h k (by omega) (by omega), ih (k + 1) (fun i h1 h2 => h i (by omega) (by omega))]
theorem lk0_co {N N' : Nat → Nat} (e2 : N' 2 = N 2) (e : ∀ l, l < N 2 → N' (11 + 3 * l) = N (11 + 3 * l) ∧ N' (12 + 3 * l) = N (12 + 3 * l)) (i : Nat) : lk0 N' i = lk0 N i := by
  unfold lk0
  rw [e2]
  refine fN_co _ _ (fun l _ h2 => ?_)
  unfold mL
  rw [(e l (by omega)).1, (e l (by omega)).2]
def uN (N : Nat → Nat) (p v : Nat) : Nat → Nat := fun q => if q = p then v else N q
theorem uN_e {N : Nat → Nat} {p v : Nat} : uN N p v p = v := by unfold uN; rw [if_pos rfl]
theorem uN_n {N : Nat → Nat} {p v q : Nat} (h : q ≠ p) : uN N p v q = N q := by unfold uN; rw [if_neg h]
section Told
variable {K : Ly} {n o hi : Nat} {h : Hp} {N : Nat → Nat}
/-- nodes, life: a number of its own -/
theorem vN_01 {k v : Nat} (hk : k < 2) (V : vN o h N) : vN o (sI h o k (nI v)) (uN N k v) := by
  obtain ⟨v1, v2, v3, v4, v5, v6⟩ := V
  have l0 : ∀ i, lk0 (uN N k v) i = lk0 N i := lk0_co (uN_n (by omega)) (fun l _ => ⟨uN_n (by omega), uN_n (by omega)⟩)
  refine ⟨fun j hj => ?_, fun i hi => ?_, fun l hl => ?_, fun i hi => ?_, fun j hj => ?_, fun j hj => ?_⟩
  · by_cases hjk : j = k
    · rw [hjk, rI_e, uN_e]
    · rw [rI_n (by omega), uN_n hjk]; exact v1 j hj
  · rw [rI_n (by omega), uN_n (by omega)]; exact v2 i hi
  · rw [uN_n (by omega)] at hl
    rw [rI_n (by omega), rI_n (by omega), rI_n (by omega), uN_n (by omega), uN_n (by omega), uN_n (by omega)]; exact v3 l hl
  · rw [rI_n (by omega), l0]; exact v4 i hi
  · rw [uN_n (by omega)] at hj
    rw [rI_n (by omega), rI_n (by omega), rI_n (by omega), rI_n (by omega), uN_n (by omega), uN_n (by omega), uN_n (by omega), uN_n (by omega)]; exact v5 j hj
  · rw [uN_n (by omega)] at hj
    rw [rI_n (by omega), rI_n (by omega), rI_n (by omega), uN_n (by omega), uN_n (by omega), uN_n (by omega)]; exact v6 j hj
theorem nP_u {p v : Nat} (hp : p < 2 ∨ (5 ≤ p ∧ p < 11)) (h0 : p = 0 → 1 ≤ v ∧ v ≤ 6) (h1 : p = 1 → 1 ≤ v ∧ v ≤ 99) (h5 : 5 ≤ p → v ≤ 4) (V : nP N hi) : nP (uN N p v) hi := by
  obtain ⟨v1, v2, v3, v4, v5, v6, v7, v8, v9, v10⟩ := V
  have e : ∀ q, 11 ≤ q ∨ (2 ≤ q ∧ q < 5) → uN N p v q = N q := fun q hq => uN_n (by omega)
  refine ⟨?_, ?_, by rw [e 2 (by omega)]; exact v3, by rw [e 3 (by omega)]; exact v4, by rw [e 4 (by omega)]; exact v5, fun i hi => ?_, fun l hl => ?_, fun l hl l' hl' => ?_, fun k hk => ?_, fun k hk => ?_⟩
  · by_cases hh : p = 0
    · subst hh; rw [uN_e]; exact h0 rfl
    · rw [uN_n (by omega)]; exact v1
  · by_cases hh : p = 1
    · subst hh; rw [uN_e]; exact h1 rfl
    · rw [uN_n (by omega)]; exact v2
  · by_cases hh : 5 + i = p
    · rw [hh, uN_e]; exact h5 (by omega)
    · rw [uN_n hh]; exact v6 i hi
  · rw [e 2 (by omega)] at hl
    rw [e _ (by omega), e _ (by omega), e _ (by omega)]; exact v7 l hl
  · rw [e 2 (by omega)] at hl
    rw [e _ (by omega), e _ (by omega), e _ (by omega), e _ (by omega)]; exact v8 l hl l' hl'
  · rw [e 3 (by omega)] at hk
    rw [e _ (by omega), e _ (by omega), e _ (by omega), e _ (by omega)]; exact v9 k hk
  · rw [e 4 (by omega)] at hk
    rw [e _ (by omega), e _ (by omega), e _ (by omega)]; exact v10 k hk
/-- a room -/
theorem vN_room {x v : Nat} (hx : x < 6) (V : vN o h N) : vN o (sI h (o + 1) x (nI v)) (uN N (5 + x) v) := by
  obtain ⟨v1, v2, v3, v4, v5, v6⟩ := V
  have l0 : ∀ i, lk0 (uN N (5 + x) v) i = lk0 N i := lk0_co (uN_n (by omega)) (fun l _ => ⟨uN_n (by omega), uN_n (by omega)⟩)
  refine ⟨fun j hj => ?_, fun i hi => ?_, fun l hl => ?_, fun i hi => ?_, fun j hj => ?_, fun j hj => ?_⟩
  · rw [rI_n (by omega), uN_n (by omega)]; exact v1 j hj
  · by_cases hix : i = x
    · rw [hix, rI_e, uN_e]
    · rw [rI_n (by omega), uN_n (by omega)]; exact v2 i hi
  · rw [uN_n (by omega)] at hl
    rw [rI_n (by omega), rI_n (by omega), rI_n (by omega), uN_n (by omega), uN_n (by omega), uN_n (by omega)]; exact v3 l hl
  · rw [rI_n (by omega), l0]; exact v4 i hi
  · rw [uN_n (by omega)] at hj
    rw [rI_n (by omega), rI_n (by omega), rI_n (by omega), rI_n (by omega), uN_n (by omega), uN_n (by omega), uN_n (by omega), uN_n (by omega)]; exact v5 j hj
  · rw [uN_n (by omega)] at hj
    rw [rI_n (by omega), rI_n (by omega), rI_n (by omega), uN_n (by omega), uN_n (by omega), uN_n (by omega)]; exact v6 j hj
/-- a route -/
def nRt (N : Nat → Nat) (x w y z : Nat) : Nat → Nat := uN (uN (uN (uN (uN N (56 + 4 * N 3) x) (57 + 4 * N 3) w) (58 + 4 * N 3) y) (59 + 4 * N 3) z) 3 (N 3 + 1)
theorem nRt_o {x w y z q : Nat} (h3 : q ≠ 3) (hq : q < 56 + 4 * N 3 ∨ 60 + 4 * N 3 ≤ q) : nRt N x w y z q = N q := by
  unfold nRt; rw [uN_n (by omega), uN_n (by omega), uN_n (by omega), uN_n (by omega), uN_n (by omega)]
theorem nRt_r {x w y z : Nat} : nRt N x w y z 3 = N 3 + 1 ∧ nRt N x w y z (56 + 4 * N 3) = x ∧ nRt N x w y z (57 + 4 * N 3) = w ∧ nRt N x w y z (58 + 4 * N 3) = y ∧ nRt N x w y z (59 + 4 * N 3) = z := by
  refine ⟨uN_e, ?_, ?_, ?_, ?_⟩
  · unfold nRt; rw [uN_n (by omega), uN_n (by omega), uN_n (by omega), uN_n (by omega), uN_e]
  · unfold nRt; rw [uN_n (by omega), uN_n (by omega), uN_n (by omega), uN_e]
  · unfold nRt; rw [uN_n (by omega), uN_n (by omega), uN_e]
  · unfold nRt; rw [uN_n (by omega), uN_e]
theorem c_addRoute {x w y z : Nat} (h3 : N 3 < 12) (P : nP N hi) (V : vN o h N) : ∃ h', f2_addRoute K n o (nI x) (nI w) (nI y) (nI z) h = some h' ∧ h'.2 = h.2 ∧ (∀ a k, ¬ (o ≤ a ∧ a < o + 13) → h'.1 a k = h.1 a k) ∧ vN o h' (nRt N x w y z) := by
  have p2 := P.2.2.1
  have p4 := P.2.2.2.2.1
  obtain ⟨v1, v2, v3, v4, v5, v6⟩ := V
  have e3 := v1 3 (by omega)
  have e1 : ¬ (12 : Int32) ≤ nI (N 3) := by rw [l_12]; exact nI_ge h3 (by omega)
  have i1 : inb (nI (N 3)) 12 = true := x_in h3 (by omega)
  have i2 : (nI (N 3)).toNatClampNeg = N 3 := x_cl (by omega)
  obtain ⟨r1, r2, r3, r4, r5⟩ := nRt_r (N := N) (x := x) (w := w) (y := y) (z := z)
  have l0 : ∀ i, lk0 (nRt N x w y z) i = lk0 N i := lk0_co (nRt_o (by omega) (by omega)) (fun l hl => ⟨nRt_o (by omega) (by omega), nRt_o (by omega) (by omega)⟩)
  refine ⟨sI (sI (sI (sI (sI h (o + 6) (N 3) (nI x)) (o + 7) (N 3) (nI w)) (o + 8) (N 3) (nI y)) (o + 9) (N 3) (nI z)) o 3 (nI (N 3 + 1)), ?_, rfl, fun a k ha => ?_, fun j hj => ?_, fun i hi => ?_, fun l hl => ?_, fun i hi => ?_, fun j hj => ?_, fun j hj => ?_⟩
  · unfold f2_addRoute
    rw [e3, if_neg e1, i1, x_gd, x_lt, i2, rI_n (by omega), e3, i1, x_gd, x_lt, i2, rI_n (by omega), rI_n (by omega), e3, i1, x_gd, x_lt, i2, rI_n (by omega), rI_n (by omega), rI_n (by omega), e3, i1, x_gd, x_lt, i2, x_lt, rI_n (by omega), rI_n (by omega), rI_n (by omega), rI_n (by omega), e3, nI_1]
  · rw [rI_n (by omega), rI_n (by omega), rI_n (by omega), rI_n (by omega), rI_n (by omega)]
  · by_cases hj3 : j = 3
    · rw [hj3, rI_e, r1]
    · rw [rI_n (by omega), rI_n (by omega), rI_n (by omega), rI_n (by omega), rI_n (by omega), nRt_o hj3 (by omega)]; exact v1 j hj
  · rw [rI_n (by omega), rI_n (by omega), rI_n (by omega), rI_n (by omega), rI_n (by omega), nRt_o (by omega) (by omega)]; exact v2 i hi
  · rw [nRt_o (by omega) (by omega)] at hl
    obtain ⟨u1, u2, u3⟩ := v3 l hl
    refine ⟨?_, ?_, ?_⟩
    · rw [rI_n (by omega), rI_n (by omega), rI_n (by omega), rI_n (by omega), rI_n (by omega), nRt_o (by omega) (by omega)]; exact u1
    · rw [rI_n (by omega), rI_n (by omega), rI_n (by omega), rI_n (by omega), rI_n (by omega), nRt_o (by omega) (by omega)]; exact u2
    · rw [rI_n (by omega), rI_n (by omega), rI_n (by omega), rI_n (by omega), rI_n (by omega), nRt_o (by omega) (by omega)]; exact u3
  · rw [rI_n (by omega), rI_n (by omega), rI_n (by omega), rI_n (by omega), rI_n (by omega), l0]; exact v4 i hi
  · rw [r1] at hj
    by_cases hj3 : j = N 3
    · subst hj3
      refine ⟨?_, ?_, ?_, ?_⟩
      · rw [rI_n (by omega), rI_n (by omega), rI_n (by omega), rI_n (by omega), rI_e, r2]
      · rw [rI_n (by omega), rI_n (by omega), rI_n (by omega), rI_e, r3]
      · rw [rI_n (by omega), rI_n (by omega), rI_e, r4]
      · rw [rI_n (by omega), rI_e, r5]
    · obtain ⟨u1, u2, u3, u4⟩ := v5 j (by omega)
      refine ⟨?_, ?_, ?_, ?_⟩
      · rw [rI_n (by omega), rI_n (by omega), rI_n (by omega), rI_n (by omega), rI_n (by omega), nRt_o (by omega) (by omega)]; exact u1
      · rw [rI_n (by omega), rI_n (by omega), rI_n (by omega), rI_n (by omega), rI_n (by omega), nRt_o (by omega) (by omega)]; exact u2
      · rw [rI_n (by omega), rI_n (by omega), rI_n (by omega), rI_n (by omega), rI_n (by omega), nRt_o (by omega) (by omega)]; exact u3
      · rw [rI_n (by omega), rI_n (by omega), rI_n (by omega), rI_n (by omega), rI_n (by omega), nRt_o (by omega) (by omega)]; exact u4
  · rw [nRt_o (by omega) (by omega)] at hj
    obtain ⟨u1, u2, u3⟩ := v6 j hj
    refine ⟨?_, ?_, ?_⟩
    · rw [rI_n (by omega), rI_n (by omega), rI_n (by omega), rI_n (by omega), rI_n (by omega), nRt_o (by omega) (by omega)]; exact u1
    · rw [rI_n (by omega), rI_n (by omega), rI_n (by omega), rI_n (by omega), rI_n (by omega), nRt_o (by omega) (by omega)]; exact u2
    · rw [rI_n (by omega), rI_n (by omega), rI_n (by omega), rI_n (by omega), rI_n (by omega), nRt_o (by omega) (by omega)]; exact u3
theorem nRt_P {x w y z : Nat} (h3 : N 3 < 12) (P : nP N hi) (hx : x < 6 ∧ x ≤ hi) (hw : 0 < w ∧ w < 531441) (hy : y < 6 ∧ y ≤ hi) (hne : y ≠ x) (hz : z ≤ 99) : nP (nRt N x w y z) hi := by
  obtain ⟨v1, v2, v3, v4, v5, v6, v7, v8, v9, v10⟩ := P
  obtain ⟨r1, r2, r3, r4, r5⟩ := nRt_r (N := N) (x := x) (w := w) (y := y) (z := z)
  have e : ∀ q, q ≠ 3 → (q < 56 + 4 * N 3 ∨ 60 + 4 * N 3 ≤ q) → nRt N x w y z q = N q := fun q h1 h2 => nRt_o h1 h2
  refine ⟨by rw [e 0 (by omega) (by omega)]; exact v1, by rw [e 1 (by omega) (by omega)]; exact v2, by rw [e 2 (by omega) (by omega)]; exact v3, by rw [r1]; omega, by rw [e 4 (by omega) (by omega)]; exact v5, fun i hi => by rw [e _ (by omega) (by omega)]; exact v6 i hi, fun l hl => ?_, fun l hl l' hl' => ?_, fun k hk => ?_, fun k hk => ?_⟩
  · rw [e 2 (by omega) (by omega)] at hl
    rw [e _ (by omega) (by omega), e _ (by omega) (by omega), e _ (by omega) (by omega)]; exact v7 l hl
  · rw [e 2 (by omega) (by omega)] at hl
    rw [e _ (by omega) (by omega), e _ (by omega) (by omega), e _ (by omega) (by omega), e _ (by omega) (by omega)]; exact v8 l hl l' hl'
  · rw [r1] at hk
    by_cases hk3 : k = N 3
    · subst hk3
      rw [r2, r3, r4, r5]; exact ⟨hx, hw, ⟨hy, hne⟩, hz⟩
    · rw [e _ (by omega) (by omega), e _ (by omega) (by omega), e _ (by omega) (by omega), e _ (by omega) (by omega)]; exact v9 k (by omega)
  · rw [e 4 (by omega) (by omega)] at hk
    rw [e _ (by omega) (by omega), e _ (by omega) (by omega), e _ (by omega) (by omega)]; exact v10 k hk
/-- a serve -/
def nSv (N : Nat → Nat) (x w z : Nat) : Nat → Nat := uN (uN (uN (uN N (104 + 3 * N 4) x) (105 + 3 * N 4) w) (106 + 3 * N 4) z) 4 (N 4 + 1)
theorem nSv_o {x w z q : Nat} (h3 : q ≠ 4) (hq : q < 104 + 3 * N 4 ∨ 107 + 3 * N 4 ≤ q) : nSv N x w z q = N q := by
  unfold nSv; rw [uN_n (by omega), uN_n (by omega), uN_n (by omega), uN_n (by omega)]
theorem nSv_r {x w z : Nat} : nSv N x w z 4 = N 4 + 1 ∧ nSv N x w z (104 + 3 * N 4) = x ∧ nSv N x w z (105 + 3 * N 4) = w ∧ nSv N x w z (106 + 3 * N 4) = z := by
  refine ⟨uN_e, ?_, ?_, ?_⟩
  · unfold nSv; rw [uN_n (by omega), uN_n (by omega), uN_n (by omega), uN_e]
  · unfold nSv; rw [uN_n (by omega), uN_n (by omega), uN_e]
  · unfold nSv; rw [uN_n (by omega), uN_e]
theorem c_addServe {x w z : Nat} (h3 : N 4 < 6) (P : nP N hi) (V : vN o h N) : ∃ h', f2_addServe K n o (nI x) (nI w) (nI z) h = some h' ∧ h'.2 = h.2 ∧ (∀ a k, ¬ (o ≤ a ∧ a < o + 13) → h'.1 a k = h.1 a k) ∧ vN o h' (nSv N x w z) := by
  have p2 := P.2.2.1
  have p3 := P.2.2.2.1
  obtain ⟨v1, v2, v3, v4, v5, v6⟩ := V
  have e3 := v1 4 (by omega)
  have e1 : ¬ (6 : Int32) ≤ nI (N 4) := by rw [l_6]; exact nI_ge h3 (by omega)
  have i1 : inb (nI (N 4)) 6 = true := x_in h3 (by omega)
  have i2 : (nI (N 4)).toNatClampNeg = N 4 := x_cl (by omega)
  obtain ⟨r1, r2, r3, r5⟩ := nSv_r (N := N) (x := x) (w := w) (z := z)
  have l0 : ∀ i, lk0 (nSv N x w z) i = lk0 N i := lk0_co (nSv_o (by omega) (by omega)) (fun l hl => ⟨nSv_o (by omega) (by omega), nSv_o (by omega) (by omega)⟩)
  refine ⟨sI (sI (sI (sI h (o + 10) (N 4) (nI x)) (o + 11) (N 4) (nI w)) (o + 12) (N 4) (nI z)) o 4 (nI (N 4 + 1)), ?_, rfl, fun a k ha => ?_, fun j hj => ?_, fun i hi => ?_, fun l hl => ?_, fun i hi => ?_, fun j hj => ?_, fun j hj => ?_⟩
  · unfold f2_addServe
    rw [e3, if_neg e1, i1, x_gd, x_lt, i2, rI_n (by omega), e3, i1, x_gd, x_lt, i2, rI_n (by omega), rI_n (by omega), e3, i1, x_gd, x_lt, i2, x_lt, rI_n (by omega), rI_n (by omega), rI_n (by omega), e3, nI_1]
  · rw [rI_n (by omega), rI_n (by omega), rI_n (by omega), rI_n (by omega)]
  · by_cases hj3 : j = 4
    · rw [hj3, rI_e, r1]
    · rw [rI_n (by omega), rI_n (by omega), rI_n (by omega), rI_n (by omega), nSv_o hj3 (by omega)]; exact v1 j hj
  · rw [rI_n (by omega), rI_n (by omega), rI_n (by omega), rI_n (by omega), nSv_o (by omega) (by omega)]; exact v2 i hi
  · rw [nSv_o (by omega) (by omega)] at hl
    obtain ⟨u1, u2, u3⟩ := v3 l hl
    refine ⟨?_, ?_, ?_⟩
    · rw [rI_n (by omega), rI_n (by omega), rI_n (by omega), rI_n (by omega), nSv_o (by omega) (by omega)]; exact u1
    · rw [rI_n (by omega), rI_n (by omega), rI_n (by omega), rI_n (by omega), nSv_o (by omega) (by omega)]; exact u2
    · rw [rI_n (by omega), rI_n (by omega), rI_n (by omega), rI_n (by omega), nSv_o (by omega) (by omega)]; exact u3
  · rw [rI_n (by omega), rI_n (by omega), rI_n (by omega), rI_n (by omega), l0]; exact v4 i hi
  · rw [nSv_o (by omega) (by omega)] at hj
    obtain ⟨u1, u2, u3, u4⟩ := v5 j hj
    refine ⟨?_, ?_, ?_, ?_⟩
    · rw [rI_n (by omega), rI_n (by omega), rI_n (by omega), rI_n (by omega), nSv_o (by omega) (by omega)]; exact u1
    · rw [rI_n (by omega), rI_n (by omega), rI_n (by omega), rI_n (by omega), nSv_o (by omega) (by omega)]; exact u2
    · rw [rI_n (by omega), rI_n (by omega), rI_n (by omega), rI_n (by omega), nSv_o (by omega) (by omega)]; exact u3
    · rw [rI_n (by omega), rI_n (by omega), rI_n (by omega), rI_n (by omega), nSv_o (by omega) (by omega)]; exact u4
  · rw [r1] at hj
    by_cases hj3 : j = N 4
    · subst hj3
      refine ⟨?_, ?_, ?_⟩
      · rw [rI_n (by omega), rI_n (by omega), rI_n (by omega), rI_e, r2]
      · rw [rI_n (by omega), rI_n (by omega), rI_e, r3]
      · rw [rI_n (by omega), rI_e, r5]
    · obtain ⟨u1, u2, u3⟩ := v6 j (by omega)
      refine ⟨?_, ?_, ?_⟩
      · rw [rI_n (by omega), rI_n (by omega), rI_n (by omega), rI_n (by omega), nSv_o (by omega) (by omega)]; exact u1
      · rw [rI_n (by omega), rI_n (by omega), rI_n (by omega), rI_n (by omega), nSv_o (by omega) (by omega)]; exact u2
      · rw [rI_n (by omega), rI_n (by omega), rI_n (by omega), rI_n (by omega), nSv_o (by omega) (by omega)]; exact u3
theorem nSv_P {x w z : Nat} (h3 : N 4 < 6) (P : nP N hi) (hx : x < 6 ∧ x ≤ hi) (hw : 0 < w ∧ w < 531441) (hz : z ≤ 99) : nP (nSv N x w z) hi := by
  obtain ⟨v1, v2, v3, v4, v5, v6, v7, v8, v9, v10⟩ := P
  obtain ⟨r1, r2, r3, r5⟩ := nSv_r (N := N) (x := x) (w := w) (z := z)
  have e : ∀ q, q ≠ 4 → (q < 104 + 3 * N 4 ∨ 107 + 3 * N 4 ≤ q) → nSv N x w z q = N q := fun q h1 h2 => nSv_o h1 h2
  refine ⟨by rw [e 0 (by omega) (by omega)]; exact v1, by rw [e 1 (by omega) (by omega)]; exact v2, by rw [e 2 (by omega) (by omega)]; exact v3, by rw [e 3 (by omega) (by omega)]; exact v4, by rw [r1]; omega, fun i hi => by rw [e _ (by omega) (by omega)]; exact v6 i hi, fun l hl => ?_, fun l hl l' hl' => ?_, fun k hk => ?_, fun k hk => ?_⟩
  · rw [e 2 (by omega) (by omega)] at hl
    rw [e _ (by omega) (by omega), e _ (by omega) (by omega), e _ (by omega) (by omega)]; exact v7 l hl
  · rw [e 2 (by omega) (by omega)] at hl
    rw [e _ (by omega) (by omega), e _ (by omega) (by omega), e _ (by omega) (by omega), e _ (by omega) (by omega)]; exact v8 l hl l' hl'
  · rw [e 3 (by omega) (by omega)] at hk
    rw [e _ (by omega) (by omega), e _ (by omega) (by omega), e _ (by omega) (by omega), e _ (by omega) (by omega)]; exact v9 k hk
  · rw [r1] at hk
    by_cases hk3 : k = N 4
    · subst hk3
      rw [r2, r3, r5]; exact ⟨hx, hw, hz⟩
    · rw [e _ (by omega) (by omega), e _ (by omega) (by omega), e _ (by omega) (by omega)]; exact v10 k (by omega)
end Told
