theorem lfA {o : Nat} {K : Ly} (h : LF (o + 1) K) : LF (o + 23) (kA10 K o) := by
  unfold kA10
  exact (lf_arr (lf_arr (lf_arr (lf_arr (lf_arr (lf7 (lf_raw (lf7 (lf_raw (lf_arr (lf_arr (lf2 (lf_raw h (fc_raw 14 (by decide +kernel))) kS_eq))) (fc_raw 19 (by decide +kernel))) kS_eq) (fc_raw 19 (by decide +kernel))) kS_eq))))))
theorem lfE {o : Nat} : ∀ (d i : Nat) (K : Ly), LF (o + 23 + 2 * i) K → LF (o + 23 + 2 * (i + d)) (kE o d i K) := by
  intro d
  induction d with
  | zero => intro i K h; exact h
  | succ d ih =>
    intro i K h
    have h1 := lf7 (lf_raw (lf6 (lf_raw (ci := 18) h (fc_raw 18 (by decide +kernel))) kS_eq) (fc_raw 19 (by decide +kernel))) kS_eq
    have h2 := ih (i + 1) _ (show LF (o + 23 + 2 * (i + 1)) _ from h1)
    rw [show i + 1 + d = i + (d + 1) by omega] at h2
    exact h2
theorem lfC {o : Nat} : ∀ (d i : Nat) (K : Ly), LF (o + 743 + 4 * i) K → LF (o + 743 + 4 * (i + d)) (kC o d i K) := by
  intro d
  induction d with
  | zero => intro i K h; exact h
  | succ d ih =>
    intro i K h
    have h1 := lf8 (lf_raw (ci := 20) h (fc_raw 20 (by decide +kernel))) kS_eq
    have h2 := ih (i + 1) _ (show LF (o + 743 + 4 * (i + 1)) _ from h1)
    rw [show i + 1 + d = i + (d + 1) by omega] at h2
    exact h2
theorem lfD {o : Nat} : ∀ (d i : Nat) (K : Ly), LF (o + 767 + i) K → LF (o + 767 + (i + d)) (kD o d i K) := by
  intro d
  induction d with
  | zero => intro i K h; exact h
  | succ d ih =>
    intro i K h
    have h1 := lf9 (lf_raw (ci := 21) h (fc_raw 21 (by decide +kernel))) kS_eq
    have h2 := ih (i + 1) _ (show LF (o + 767 + (i + 1)) _ from h1)
    rw [show i + 1 + d = i + (d + 1) by omega] at h2
    exact h2
theorem kE_at {o : Nat} : ∀ (d i : Nat) (K : Ly) (j : Nat), i ≤ j → j < i + d → kE o d i K (o + 23 + 2 * j) = some (.inl 6) ∧ kE o d i K (o + 24 + 2 * j) = some (.inl 7) := by
  intro d
  induction d with
  | zero => intro i K j h1 h2; omega
  | succ d ih =>
    intro i K j h1 h2
    by_cases hj : j = i
    · subst hj
      have e1 := kE_old (o := o) (a := o + 23 + 2 * j) d (j + 1) (kI7 (kS (kI6 (kS K (o + 23 + 2 * j) (.inl 18)) (o + 23 + 2 * j)) (o + 23 + 2 * j + 1) (.inl 19)) (o + 23 + 2 * j + 1)) (by omega)
      have e2 := kE_old (o := o) (a := o + 24 + 2 * j) d (j + 1) (kI7 (kS (kI6 (kS K (o + 23 + 2 * j) (.inl 18)) (o + 23 + 2 * j)) (o + 23 + 2 * j + 1) (.inl 19)) (o + 23 + 2 * j + 1)) (by omega)
      refine ⟨e1.trans ?_, e2.trans ?_⟩
      · rw [kI7_old (by omega), kS_ne2 (by omega), kI6_o]
      · rw [show o + 24 + 2 * j = o + 23 + 2 * j + 1 by omega, kI7_o]
    · exact ih (i + 1) _ j (by omega) (by omega)
theorem kC_at {o : Nat} : ∀ (d i : Nat) (K : Ly) (j : Nat), i ≤ j → j < i + d → kC o d i K (o + 743 + 4 * j) = some (.inl 8) := by
  intro d
  induction d with
  | zero => intro i K j h1 h2; omega
  | succ d ih =>
    intro i K j h1 h2
    by_cases hj : j = i
    · subst hj
      exact (kC_old (o := o) (a := o + 743 + 4 * j) d (j + 1) (kI8 (kS K (o + 743 + 4 * j) (.inl 20)) (o + 743 + 4 * j)) (by omega)).trans kI8_o
    · exact ih (i + 1) _ j (by omega) (by omega)
theorem kD_at {o : Nat} : ∀ (d i : Nat) (K : Ly) (j : Nat), i ≤ j → j < i + d → kD o d i K (o + 767 + j) = some (.inl 9) := by
  intro d
  induction d with
  | zero => intro i K j h1 h2; omega
  | succ d ih =>
    intro i K j h1 h2
    by_cases hj : j = i
    · subst hj
      exact (kD_old (o := o) (a := o + 767 + j) d (j + 1) (kI9 (kS K (o + 767 + j) (.inl 21)) (o + 767 + j)) (by omega)).trans kI9_o
    · exact ih (i + 1) _ j (by omega) (by omega)
theorem kI10_KC (K : Ly) (o : Nat) : KC (kI10 K o) o := by
  unfold kI10
  refine ⟨fun j hj => ?_, fun j hj => ?_, fun j hj => ?_, fun j hj => ?_⟩
  · rw [kS_ne2 (by omega), kD_old _ _ _ (by omega), kC_old _ _ _ (by omega)]; exact (kE_at 360 0 _ j (by omega) (by omega)).1
  · rw [kS_ne2 (by omega), kD_old _ _ _ (by omega), kC_old _ _ _ (by omega)]; exact (kE_at 360 0 _ j (by omega) (by omega)).2
  · rw [kS_ne2 (by omega), kD_old _ _ _ (by omega)]; exact kC_at 6 0 _ j (by omega) (by omega)
  · rw [kS_ne2 (by omega)]; exact kD_at 60 0 _ j (by omega) (by omega)
theorem kA10_16 {K : Ly} {o : Nat} : kA10 K o (o + 16) = some (.inl 7) := by
  unfold kA10
  repeat (first | exact kS_eq | rw [kS_ne2 (by omega)] | exact kI7_o | rw [kI7_old (by omega)] | rw [kI2_old (by omega)])
theorem kA10_17 {K : Ly} {o : Nat} : kA10 K o (o + 17) = some (.inl 7) := by
  unfold kA10
  repeat (first | exact kS_eq | rw [kS_ne2 (by omega)] | exact kI7_o | rw [kI7_old (by omega)] | rw [kI2_old (by omega)])
theorem kA10_18 {K : Ly} {o : Nat} : kA10 K o (o + 18) = some (.inr (0, 36)) := by
  unfold kA10
  repeat (first | exact kS_eq | rw [kS_ne2 (by omega)] | exact kI7_o | rw [kI7_old (by omega)] | rw [kI2_old (by omega)])
theorem kA10_19 {K : Ly} {o : Nat} : kA10 K o (o + 19) = some (.inr (3, 6)) := by
  unfold kA10
  repeat (first | exact kS_eq | rw [kS_ne2 (by omega)] | exact kI7_o | rw [kI7_old (by omega)] | rw [kI2_old (by omega)])
theorem kA10_22 {K : Ly} {o : Nat} : kA10 K o (o + 22) = some (.inr (0, 7)) := by
  unfold kA10
  repeat (first | exact kS_eq | rw [kS_ne2 (by omega)] | exact kI7_o | rw [kI7_old (by omega)] | rw [kI2_old (by omega)])
theorem lf10 {o : Nat} {K : Ly} (h : LF (o + 1) K) (ho : K o = some (.inl 22)) : LF (o + 827) (kI10 K o) := by
  have h2 := lfD 60 0 _ (lfC 6 0 _ (lfE 360 0 _ (lfA h)))
  unfold kI10
  have old : ∀ a, a < o + 23 → kD o 60 0 (kC o 6 0 (kE o 360 0 (kA10 K o))) a = kA10 K o a := fun a ha => by rw [kD_old _ _ _ (by omega), kC_old _ _ _ (by omega), kE_old _ _ _ (by omega)]
  refine lf_fin (ci := 10) (n := o + 827) h2 ?_ (st_of [(14, .inr (8, 360)), (15, .inr (9, 360)), (16, .inl 7), (17, .inl 7), (18, .inr (0, 36)), (19, .inr (3, 6)), (20, .inr (10, 6)), (21, .inr (11, 60)), (22, .inr (0, 7))] (by decide +kernel) ?_)
  · rw [old _ (by omega), kA10_old (by omega)]; exact ho
  · simp only [List.forall_mem_cons, List.not_mem_nil, false_imp_iff, implies_true, and_true]
    refine ⟨?_, ?_, ?_, ?_, ?_, ?_, ?_, ?_, ?_⟩
    all_goals rw [old _ (by omega)]
    · exact kA10_14
    · exact kA10_15
    · exact kA10_16
    · exact kA10_17
    · exact kA10_18
    · exact kA10_19
    · exact kA10_20
    · exact kA10_21
    · exact kA10_22
theorem lf0 {o : Nat} {K : Ly} (h : LF (o + 1) K) (ho : K o = some (.inl 12)) : LF (o + 1040) (kI0 K o) := by
  have o1 : ∀ (K : Ly) (o a : Nat), a < o → kI1 K o a = K a := fun K o a h => kI1_old h
  have o5 : ∀ (K : Ly) (o a : Nat), a < o → kI5 K o a = K a := fun K o a h => kI5_old h
  have o10 : ∀ (K : Ly) (o a : Nat), a < o → kI10 K o a = K a := fun K o a h => kI10_old h
  have e1 : ∀ (K : Ly) (o : Nat), kI1 K o o = some (.inl 1) := fun K o => kI1_o
  have e5 : ∀ (K : Ly) (o : Nat), kI5 K o o = some (.inl 5) := fun K o => kI5_o
  have e10 : ∀ (K : Ly) (o : Nat), kI10 K o o = some (.inl 10) := fun K o => kI10_o
  have L1 : ∀ {o : Nat} {K : Ly}, LF (o + 1) K → K o = some (.inl 13) → LF (o + 46) (kI1 K o) := fun h ho => lf1 h ho
  have L5 : ∀ {o : Nat} {K : Ly}, LF (o + 1) K → K o = some (.inl 17) → LF (o + 23) (kI5 K o) := fun h ho => lf5 h ho
  have L10 : ∀ {o : Nat} {K : Ly}, LF (o + 1) K → K o = some (.inl 22) → LF (o + 827) (kI10 K o) := fun h ho => lf10 h ho
  unfold kI0
  generalize kI1 = g1 at o1 e1 L1 ⊢
  generalize kI5 = g5 at o5 e5 L5 ⊢
  generalize kI10 = g10 at o10 e10 L10 ⊢
  refine lf_fin (ci := 0) (n := o + 1040) (lf_arr (lf_arr (lf_arr (L10 (lf_raw (L5 (lf_raw (lf_arr (L1 (lf_raw (L1 (lf_raw (L1 (lf_raw (lf_arr (L1 (lf_raw h (fc_raw 13 (by decide +kernel))) kS_eq)) (fc_raw 13 (by decide +kernel))) kS_eq) (fc_raw 13 (by decide +kernel))) kS_eq) (fc_raw 13 (by decide +kernel))) kS_eq)) (fc_raw 17 (by decide +kernel))) kS_eq) (fc_raw 22 (by decide +kernel))) kS_eq)))) ?_ (st_of [(1, .inl 1), (47, .inr (4, 3)), (186, .inr (2, 3)), (187, .inl 5), (210, .inl 10), (1037, .inr (0, 7)), (1038, .inr (0, 16)), (1039, .inr (0, 40))] (by decide +kernel) ?_)
  · repeat (first | exact ho | rw [kS_ne2 (by omega)] | rw [o1 _ _ _ (by omega)] | rw [o5 _ _ _ (by omega)] | rw [o10 _ _ _ (by omega)])
  · simp only [List.forall_mem_cons, List.not_mem_nil, false_imp_iff, implies_true, and_true]
    refine ⟨?_, ?_, ?_, ?_, ?_, ?_, ?_, ?_⟩
    all_goals repeat (first | rw [kS_ne2 (by omega)] | rw [o10 _ _ _ (by omega)] | rw [o5 _ _ _ (by omega)] | rw [o1 _ _ _ (by omega)] | rw [e10] | rw [e5] | rw [e1] | rw [kS_eq])
theorem kI1_KT (K : Ly) (o : Nat) : KT (kI1 K o) o := by
  have o2 : ∀ (K : Ly) (o a : Nat), a < o → kI2 K o a = K a := fun K o a h => kI2_old h
  have o3 : ∀ (K : Ly) (o a : Nat), a < o → kI3 K o a = K a := fun K o a h => kI3_old h
  have o4 : ∀ (K : Ly) (o a : Nat), a < o → kI4 K o a = K a := fun K o a h => kI4_old h
  have e2 : ∀ (K : Ly) (o : Nat), kI2 K o o = some (.inl 2) := fun K o => kI2_o
  have e3 : ∀ (K : Ly) (o : Nat), kI3 K o o = some (.inl 3) := fun K o => kI3_o
  have e4 : ∀ (K : Ly) (o : Nat), kI4 K o o = some (.inl 4) := fun K o => kI4_o
  intro i hi
  have : i = 0 ∨ i = 1 := by omega
  unfold kI1
  generalize kI2 = g2 at o2 e2 ⊢
  generalize kI3 = g3 at o3 e3 ⊢
  generalize kI4 = g4 at o4 e4 ⊢
  rcases this with rfl | rfl
  · rw [show o + 4 + 13 * 0 = o + 4 by omega, show o + 31 + 4 * 0 = o + 31 by omega, show o + 40 + 3 * 0 = o + 40 by omega]
    refine ⟨?_, ?_, ?_⟩
    all_goals repeat (first | rw [kS_ne2 (by omega)] | rw [o4 _ _ _ (by omega)] | rw [o3 _ _ _ (by omega)] | rw [o2 _ _ _ (by omega)] | rw [e4] | rw [e3] | rw [e2])
  · rw [show o + 4 + 13 * 1 = o + 17 by omega, show o + 31 + 4 * 1 = o + 35 by omega, show o + 40 + 3 * 1 = o + 43 by omega]
    refine ⟨?_, ?_, ?_⟩
    all_goals repeat (first | rw [kS_ne2 (by omega)] | rw [o4 _ _ _ (by omega)] | rw [o3 _ _ _ (by omega)] | rw [o2 _ _ _ (by omega)] | rw [e4] | rw [e3] | rw [e2])
theorem kI0_KX (K : Ly) (x : Nat) : KX (kI0 K x) x ∧ ∀ k, k < 3 → kI0 K x (tA x (k + 1)) = some (.inl 1) := by
  have o1 : ∀ (K : Ly) (o a : Nat), a < o → kI1 K o a = K a := fun K o a h => kI1_old h
  have o5 : ∀ (K : Ly) (o a : Nat), a < o → kI5 K o a = K a := fun K o a h => kI5_old h
  have o10 : ∀ (K : Ly) (o a : Nat), a < o → kI10 K o a = K a := fun K o a h => kI10_old h
  have e1 : ∀ (K : Ly) (o : Nat), kI1 K o o = some (.inl 1) := fun K o => kI1_o
  have e5 : ∀ (K : Ly) (o : Nat), kI5 K o o = some (.inl 5) := fun K o => kI5_o
  have e10 : ∀ (K : Ly) (o : Nat), kI10 K o o = some (.inl 10) := fun K o => kI10_o
  have T1 := kI1_KT
  have T2 := kI10_KC
  unfold kI0
  generalize kI1 = g1 at o1 e1 T1 ⊢
  generalize kI5 = g5 at o5 e5 ⊢
  generalize kI10 = g10 at o10 e10 T2 ⊢
  refine ⟨⟨?_, fun z hz => ?_⟩, fun k hk => ?_⟩
  · have e : ∀ (H : Ly) (a : Nat), x + 210 ≤ a → a < x + 1037 → (kS (kS (kS (kS (g10 H (x + 210)) (x + 1037) (.inr (0, 7))) (x + 1038) (.inr (0, 16))) (x + 1039) (.inr (0, 40))) x (.inl 0)) a = g10 H (x + 210) a := fun H a h1 h2 => by
      rw [kS_ne2 (by omega), kS_ne2 (by omega), kS_ne2 (by omega), kS_ne2 (by omega)]
    obtain ⟨c1, c2, c3, c4⟩ := T2 (kS (g5 (kS (kS (g1 (kS (g1 (kS (g1 (kS (kS (g1 (kS K (x + 1) (.inl 13)) (x + 1)) (x + 47) (.inr (4, 3))) (x + 48) (.inl 13)) (x + 48)) (x + 94) (.inl 13)) (x + 94)) (x + 140) (.inl 13)) (x + 140)) (x + 186) (.inr (2, 3))) (x + 187) (.inl 17)) (x + 187)) (x + 210) (.inl 22)) (x + 210)
    exact ⟨fun j hj => (e _ _ (by omega) (by omega)).trans (c1 j hj), fun j hj => (e _ _ (by omega) (by omega)).trans (c2 j hj), fun j hj => (e _ _ (by omega) (by omega)).trans (c3 j hj), fun j hj => (e _ _ (by omega) (by omega)).trans (c4 j hj)⟩
  · have tr : ∀ (K' K'' : Ly) (t : Nat), KT K' t → (∀ a, t < a → a < t + 46 → K'' a = K' a) → KT K'' t := fun K' K'' t c e i hi => by
      obtain ⟨c1, c2, c3⟩ := c i hi
      exact ⟨by rw [e _ (by omega) (by omega)]; exact c1, by rw [e _ (by omega) (by omega)]; exact c2, by rw [e _ (by omega) (by omega)]; exact c3⟩
    have : z = 0 ∨ z = 1 ∨ z = 2 ∨ z = 3 := by omega
    rcases this with rfl | rfl | rfl | rfl
    · refine tr (g1 (kS K (x + 1) (.inl 13)) (x + 1)) _ (x + 1) (T1 _ _) (fun a h1 h2 => ?_)
      repeat (first | rw [kS_ne2 (by omega)] | rw [o1 _ _ _ (by omega)] | rw [o5 _ _ _ (by omega)] | rw [o10 _ _ _ (by omega)])
    · refine tr (g1 (kS (kS (g1 (kS K (x + 1) (.inl 13)) (x + 1)) (x + 47) (.inr (4, 3))) (x + 48) (.inl 13)) (x + 48)) _ (x + 48) (T1 _ _) (fun a h1 h2 => ?_)
      repeat (first | rw [kS_ne2 (by omega)] | rw [o1 _ _ _ (by omega)] | rw [o5 _ _ _ (by omega)] | rw [o10 _ _ _ (by omega)])
    · refine tr (g1 (kS (g1 (kS (kS (g1 (kS K (x + 1) (.inl 13)) (x + 1)) (x + 47) (.inr (4, 3))) (x + 48) (.inl 13)) (x + 48)) (x + 94) (.inl 13)) (x + 94)) _ (x + 94) (T1 _ _) (fun a h1 h2 => ?_)
      repeat (first | rw [kS_ne2 (by omega)] | rw [o1 _ _ _ (by omega)] | rw [o5 _ _ _ (by omega)] | rw [o10 _ _ _ (by omega)])
    · refine tr (g1 (kS (g1 (kS (g1 (kS (kS (g1 (kS K (x + 1) (.inl 13)) (x + 1)) (x + 47) (.inr (4, 3))) (x + 48) (.inl 13)) (x + 48)) (x + 94) (.inl 13)) (x + 94)) (x + 140) (.inl 13)) (x + 140)) _ (x + 140) (T1 _ _) (fun a h1 h2 => ?_)
      repeat (first | rw [kS_ne2 (by omega)] | rw [o1 _ _ _ (by omega)] | rw [o5 _ _ _ (by omega)] | rw [o10 _ _ _ (by omega)])
  · have : k = 0 ∨ k = 1 ∨ k = 2 := by omega
    rcases this with rfl | rfl | rfl
    · show _ = _
      rw [show tA x (0 + 1) = x + 48 from rfl]
      repeat (first | rw [kS_ne2 (by omega)] | rw [o10 _ _ _ (by omega)] | rw [o5 _ _ _ (by omega)] | rw [o1 _ _ _ (by omega)] | rw [e1])
    · show _ = _
      rw [show tA x (1 + 1) = x + 94 from rfl]
      repeat (first | rw [kS_ne2 (by omega)] | rw [o10 _ _ _ (by omega)] | rw [o5 _ _ _ (by omega)] | rw [o1 _ _ _ (by omega)] | rw [e1])
    · show _ = _
      rw [show tA x (2 + 1) = x + 140 from rfl]
      repeat (first | rw [kS_ne2 (by omega)] | rw [o10 _ _ _ (by omega)] | rw [o5 _ _ _ (by omega)] | rw [o1 _ _ _ (by omega)] | rw [e1])
