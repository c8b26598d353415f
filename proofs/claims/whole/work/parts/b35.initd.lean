theorem kE_old {o a : Nat} : ∀ (d i : Nat) (K : Ly), a < o + 23 + 2 * i → kE o d i K a = K a := by
  intro d
  induction d with
  | zero => intro i K _; rfl
  | succ d ih =>
    intro i K ha
    show kE o d (i + 1) _ a = K a
    rw [ih _ _ (by omega), kI7_old (by omega), kS_ne2 (by omega), kI6_old (by omega), kS_ne2 (by omega)]
theorem kC_old {o a : Nat} : ∀ (d i : Nat) (K : Ly), a < o + 743 + 4 * i → kC o d i K a = K a := by
  intro d
  induction d with
  | zero => intro i K _; rfl
  | succ d ih =>
    intro i K ha
    show kC o d (i + 1) _ a = K a
    rw [ih _ _ (by omega), kI8_old (by omega), kS_ne2 (by omega)]
theorem kD_old {o a : Nat} : ∀ (d i : Nat) (K : Ly), a < o + 767 + i → kD o d i K a = K a := by
  intro d
  induction d with
  | zero => intro i K _; rfl
  | succ d ih =>
    intro i K ha
    show kD o d (i + 1) _ a = K a
    rw [ih _ _ (by omega), kI9_old (by omega), kS_ne2 (by omega)]
theorem o_rf {h : Hp} {a : Nat} : (∀ k, h.1 a k = h.1 a k) ∧ (∀ k, h.2.1 a k = h.2.1 a k) ∧ ∀ k, h.2.2 a k = h.2.2 a k := ⟨fun _ => rfl, fun _ => rfl, fun _ => rfl⟩
theorem hE_old {o a : Nat} : ∀ (d i : Nat) (h : Hp), a < o + 23 + 2 * i → a ≠ o + 14 → a ≠ o + 15 → (∀ k, (hE o d i h).1 a k = h.1 a k) ∧ (∀ k, (hE o d i h).2.1 a k = h.2.1 a k) ∧ ∀ k, (hE o d i h).2.2 a k = h.2.2 a k := by
  intro d
  induction d with
  | zero => intro i h _ _ _; exact o_rf
  | succ d ih =>
    intro i h ha h1 h2
    exact o_tr (ih (i + 1) _ (by omega) h1 h2) (o_sR h2 (o_tr (hI7_old (by omega)) (o_zr (by omega) (o_sR h1 (o_tr (hI6_old (by omega)) (o_zr (by omega) o_rf))))))
theorem hC_old {o a : Nat} : ∀ (d i : Nat) (h : Hp), a < o + 743 + 4 * i → a ≠ o + 20 → (∀ k, (hC o d i h).1 a k = h.1 a k) ∧ (∀ k, (hC o d i h).2.1 a k = h.2.1 a k) ∧ ∀ k, (hC o d i h).2.2 a k = h.2.2 a k := by
  intro d
  induction d with
  | zero => intro i h _ _; exact o_rf
  | succ d ih =>
    intro i h ha h1
    exact o_tr (ih (i + 1) _ (by omega) h1) (o_sR h1 (o_tr (hI8_old (by omega)) (o_zr (by omega) o_rf)))
theorem hD_old {o a : Nat} : ∀ (d i : Nat) (h : Hp), a < o + 767 + i → a ≠ o + 21 → (∀ k, (hD o d i h).1 a k = h.1 a k) ∧ (∀ k, (hD o d i h).2.1 a k = h.2.1 a k) ∧ ∀ k, (hD o d i h).2.2 a k = h.2.2 a k := by
  intro d
  induction d with
  | zero => intro i h _ _; exact o_rf
  | succ d ih =>
    intro i h ha h1
    exact o_tr (ih (i + 1) _ (by omega) h1) (o_sR h1 (o_tr (hI9_old (by omega)) (o_zr (by omega) o_rf)))
def kI10 (K : Ly) (o : Nat) : Ly := kS (kD o 60 0 (kC o 6 0 (kE o 360 0 (kA10 K o)))) o (.inl 10)
def hI10 (h : Hp) (o : Nat) : Hp := hD o 60 0 (hC o 6 0 (hE o 360 0 (hA10 h o)))
theorem sR_x {h : Hp} {a b k j : Nat} {v : Option Nat} (hb : ¬ (a = b ∧ k = j)) : (sR h b j v).2.2 a k = h.2.2 a k := by simp only [sR, if_neg hb]
theorem sR_e {h : Hp} {b j : Nat} {v : Option Nat} : (sR h b j v).2.2 b j = v := by simp [sR]
theorem zr_x {h : Hp} {a b k : Nat} (hb : a ≠ b) : (zr h b).2.2 a k = h.2.2 a k := by simp [zr, hb]
theorem zr_i {h : Hp} {a b k : Nat} (hb : a ≠ b) : (zr h b).1 a k = h.1 a k := by simp [zr, hb]
theorem zr_z {h : Hp} {b k : Nat} : (zr h b).1 b k = 0 := by simp [zr]
theorem sR_i {h : Hp} {a b k j : Nat} {v : Option Nat} : (sR h b j v).1 a k = h.1 a k := rfl
theorem sI_x {h : Hp} {a b k j : Nat} {v : Int32} : (sI h b j v).2.2 a k = h.2.2 a k := rfl
theorem kA10_14 {K : Ly} {o : Nat} : kA10 K o (o + 14) = some (.inr (8, 360)) := by
  unfold kA10
  repeat (first | exact kS_eq | rw [kS_ne2 (by omega)] | rw [kI7_old (by omega)] | rw [kI2_old (by omega)])
theorem kA10_15 {K : Ly} {o : Nat} : kA10 K o (o + 15) = some (.inr (9, 360)) := by
  unfold kA10
  repeat (first | exact kS_eq | rw [kS_ne2 (by omega)] | rw [kI7_old (by omega)] | rw [kI2_old (by omega)])
theorem kA10_20 {K : Ly} {o : Nat} : kA10 K o (o + 20) = some (.inr (10, 6)) := by
  unfold kA10
  repeat (first | exact kS_eq | rw [kS_ne2 (by omega)] | rw [kI7_old (by omega)] | rw [kI2_old (by omega)])
theorem kA10_21 {K : Ly} {o : Nat} : kA10 K o (o + 21) = some (.inr (11, 60)) := by
  unfold kA10
  repeat (first | exact kS_eq | rw [kS_ne2 (by omega)] | rw [kI7_old (by omega)] | rw [kI2_old (by omega)])
theorem kA10_old {K : Ly} {o a : Nat} (ha : a < o + 1) : kA10 K o a = K a := by
  unfold kA10
  repeat (first | rfl | rw [kS_ne2 (by omega)] | rw [kI7_old (by omega)] | rw [kI2_old (by omega)])
theorem hI10_o (h : Hp) (o k : Nat) : (hI10 h o).2.2 o k = (hA10 h o).2.2 o k := by
  unfold hI10
  rw [(hD_old 60 0 _ (by omega) (by omega)).2.2, (hC_old 6 0 _ (by omega) (by omega)).2.2, (hE_old 360 0 _ (by omega) (by omega) (by omega)).2.2]
theorem hA10_old {h : Hp} {o a : Nat} (ha : a < o) : (∀ k, (hA10 h o).1 a k = h.1 a k) ∧ (∀ k, (hA10 h o).2.1 a k = h.2.1 a k) ∧ ∀ k, (hA10 h o).2.2 a k = h.2.2 a k := by
  unfold hA10
  repeat (first | exact o_rf | refine o_zr (by omega) ?_ | refine o_sI (by omega) ?_ | refine o_sL (by omega) ?_ | refine o_sR (by omega) ?_ | refine o_tr (hI2_old (by omega)) ?_ | refine o_tr (hI7_old (by omega)) ?_)
def sl10 : List (Nat × Nat) := [(5, 14), (7, 15), (9, 16), (10, 17), (11, 18), (12, 19), (13, 20), (14, 21), (15, 22)]
theorem hA10_st (h : Hp) (o : Nat) : ∀ q ∈ sl10, (hA10 h o).2.2 o q.1 = some (o + q.2) := by
  have f2 : ∀ (h : Hp) (b k : Nat), o < b → (hI2 h b).2.2 o k = h.2.2 o k := fun h b k hb => (hI2_old hb).2.2 k
  have f7 : ∀ (h : Hp) (b k : Nat), o < b → (hI7 h b).2.2 o k = h.2.2 o k := fun h b k hb => (hI7_old hb).2.2 k
  unfold sl10 hA10
  simp only [List.forall_mem_cons, List.not_mem_nil, false_imp_iff, implies_true, and_true]
  refine ⟨?_, ?_, ?_, ?_, ?_, ?_, ?_, ?_, ?_⟩
  all_goals repeat (first | exact sR_e | rw [sR_x (by omega)] | rw [zr_x (by omega)] | rw [sI_x] | rw [f7 _ _ _ (by omega)] | rw [f2 _ _ _ (by omega)])
theorem hall10 (h : Hp) (o j : Nat) (hj : j < 16) : tV (fc 22 j) (hI10 h o) o j = tV (fc 10 j) (hI10 h o) o j := by
  by_cases hs : fc 22 j = fc 10 j
  · rw [hs]
  · have h1 : fc 22 j = 2 := (show ∀ j, j < 16 → ¬ fc 22 j = fc 10 j → fc 22 j = 2 by decide +kernel) j hj hs
    have h2 := (show ∀ j, j < 16 → ¬ fc 22 j = fc 10 j → (sl10.any (fun q => q.1 == j && q.2 + 3 == fc 10 j)) = true by decide +kernel) j hj hs
    obtain ⟨⟨j2, k⟩, hq, hb⟩ := List.any_eq_true.mp h2
    simp only [Bool.and_eq_true, beq_iff_eq] at hb
    obtain ⟨rfl, hb⟩ := hb
    rw [h1, ← hb]
    show va_rf ((hI10 h o).2.2 o j2) = .ref (o + k)
    rw [hI10_o, hA10_st h o _ hq]
    rfl
set_option maxHeartbeats 4000000 in
set_option maxRecDepth 100000 in
theorem ci10 {sp : Sp} {K : Ly} {h : Hp} {o : Nat} (hk : K o = some (.inl 22)) : ConI sp y10_init prog_2_method_1_code 2 2 826 10609 o (o + 1) K h (o + 827) (kI10 K o) (hI10 h o) := by
  refine ConI.of (by decide) rfl (by decide) (fun Γ X O Q => ?_)
  have r : ∀ f c, (f, c) ∈ sl10 → (hA10 h o).2.2 o f = some (o + c) := fun f c hm => hA10_st h o (f, c) hm
  refine ic_a X O Q hk ?_
  refine g_iconst (n := 0) (x := nI 0) (sz := o + 23) X (by decide +kernel) (by decide) ?_
  refine g_istore_n (n := 1) (i := 1) X (by decide +kernel) rfl (by decide) [1, 0] rfl ?_
  refine ic_b X O Q 360 0 _ _ (by omega) (by rw [kA10_old (by omega)]; exact hk) kA10_14 kA10_15 (r 5 14 (by decide)) (r 7 15 (by decide)) ?_
  refine g_iconst (n := 0) (x := nI 0) (sz := o + 743) X (by decide +kernel) (by decide) ?_
  refine g_istore_n (n := 1) (i := 1) X (by decide +kernel) rfl (by decide) [1, 0] rfl ?_
  refine ic_c X O Q 6 0 _ _ (by omega) (by rw [kE_old _ _ _ (by omega), kA10_old (by omega)]; exact hk) (by rw [kE_old _ _ _ (by omega)]; exact kA10_20) (by rw [(hE_old _ _ _ (by omega) (by omega) (by omega)).2.2]; exact r 13 20 (by decide)) ?_
  refine g_iconst (n := 0) (x := nI 0) (sz := o + 767) X (by decide +kernel) (by decide) ?_
  refine g_istore_n (n := 1) (i := 1) X (by decide +kernel) rfl (by decide) [1, 0] rfl ?_
  refine ic_d X O Q 60 0 _ _ (by omega) (by rw [kC_old _ _ _ (by omega), kE_old _ _ _ (by omega), kA10_old (by omega)]; exact hk) (by rw [kC_old _ _ _ (by omega), kE_old _ _ _ (by omega)]; exact kA10_21) (by rw [(hC_old _ _ _ (by omega) (by omega)).2.2, (hE_old _ _ _ (by omega) (by omega) (by omega)).2.2]; exact r 14 21 (by decide)) ?_
  refine i_fin (ci := 10) (sz := o + 827) X (by rw [kD_old _ _ _ (by omega), kC_old _ _ _ (by omega), kE_old _ _ _ (by omega), kA10_old (by omega)]; exact hk) rfl rfl (hall10 h o) ?_
  exact i_ret (sz := o + 827) X O (by decide +kernel) (Nat.le_of_ble_eq_true rfl) (Nat.le_of_ble_eq_true rfl)
theorem kI10_o {K : Ly} {o : Nat} : kI10 K o o = some (.inl 10) := kS_eq
theorem kI10_old {K : Ly} {o a : Nat} (ha : a < o) : kI10 K o a = K a := by
  unfold kI10
  rw [kS_ne2 (by omega), kD_old _ _ _ (by omega), kC_old _ _ _ (by omega), kE_old _ _ _ (by omega), kA10_old (by omega)]
theorem hI10_old {h : Hp} {o a : Nat} (ha : a < o) : (∀ k, (hI10 h o).1 a k = h.1 a k) ∧ (∀ k, (hI10 h o).2.1 a k = h.2.1 a k) ∧ ∀ k, (hI10 h o).2.2 a k = h.2.2 a k := by
  unfold hI10
  exact o_tr (hD_old _ _ _ (by omega) (by omega)) (o_tr (hC_old _ _ _ (by omega) (by omega)) (o_tr (hE_old _ _ _ (by omega) (by omega) (by omega)) (hA10_old ha)))
