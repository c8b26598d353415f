def kI1 (K : Ly) (o : Nat) : Ly := (kS (kI4 (kS (kI4 (kS (kS (kI3 (kS (kI3 (kS (kS (kI2 (kS (kI2 (kS (kS (kS (kS K (o + 1) (.inr (1, 600))) (o + 2) (.inr (0, 3))) (o + 3) (.inr (5, 2))) (o + 4) (.inl 14)) (o + 4)) (o + 17) (.inl 14)) (o + 17)) (o + 30) (.inr (6, 2))) (o + 31) (.inl 15)) (o + 31)) (o + 35) (.inl 15)) (o + 35)) (o + 39) (.inr (7, 2))) (o + 40) (.inl 16)) (o + 40)) (o + 43) (.inl 16)) (o + 43)) o (.inl 1))
def hI1 (h : Hp) (o : Nat) : Hp := (sR (sR (hI4 (zr (sR (hI4 (zr (zr (sR (sR (hI3 (zr (sR (hI3 (zr (zr (sR (sR (hI2 (zr (sR (hI2 (zr (zr (sR (zr (sI (sI (sI (sR (zr h (o + 1)) o 0 (some (o + 1))) o 1 (0 : Int32)) o 2 (0 : Int32)) o 3 (-1 : Int32)) (o + 2)) o 4 (some (o + 2))) (o + 3)) (o + 4)) (o + 4)) (o + 3) (0 : Int32).toNatClampNeg (some (o + 4))) (o + 17)) (o + 17)) (o + 3) (1 : Int32).toNatClampNeg (some (o + 17))) o 5 (some (o + 3))) (o + 30)) (o + 31)) (o + 31)) (o + 30) (0 : Int32).toNatClampNeg (some (o + 31))) (o + 35)) (o + 35)) (o + 30) (1 : Int32).toNatClampNeg (some (o + 35))) o 6 (some (o + 30))) (o + 39)) (o + 40)) (o + 40)) (o + 39) (0 : Int32).toNatClampNeg (some (o + 40))) (o + 43)) (o + 43)) (o + 39) (1 : Int32).toNatClampNeg (some (o + 43))) o 7 (some (o + 39)))
theorem kI1_o {K : Ly} {o : Nat} : kI1 K o o = some (.inl 1) := by simp [kI1, kS]
theorem kI1_old {K : Ly} {o a : Nat} (ha : a < o) : kI1 K o a = K a := by
  unfold kI1
  repeat (first | rw [show ∀ (K : Ly) (b : Nat) (kd : Kd), a ≠ b → kS K b kd a = K a from fun K b kd hb => by simp [kS, hb]] | rw [kI2_old (by omega)] | rw [kI3_old (by omega)] | rw [kI4_old (by omega)] | omega | rfl)
set_option maxHeartbeats 4000000 in
set_option maxRecDepth 100000 in
theorem st1_0 (h : Hp) (o : Nat) : (hI1 h o).2.2 o 0 = some (o + 1) := by
  unfold hI1
  simp [sI, sL, sR, zr, hI2_old, hI3_old, hI4_old]
set_option maxHeartbeats 4000000 in
set_option maxRecDepth 100000 in
theorem st1_4 (h : Hp) (o : Nat) : (hI1 h o).2.2 o 4 = some (o + 2) := by
  unfold hI1
  simp [sI, sL, sR, zr, hI2_old, hI3_old, hI4_old]
set_option maxHeartbeats 4000000 in
set_option maxRecDepth 100000 in
theorem st1_5 (h : Hp) (o : Nat) : (hI1 h o).2.2 o 5 = some (o + 3) := by
  unfold hI1
  simp [sI, sL, sR, zr, hI2_old, hI3_old, hI4_old]
set_option maxHeartbeats 4000000 in
set_option maxRecDepth 100000 in
theorem st1_6 (h : Hp) (o : Nat) : (hI1 h o).2.2 o 6 = some (o + 30) := by
  unfold hI1
  simp [sI, sL, sR, zr, hI2_old, hI3_old, hI4_old]
set_option maxHeartbeats 4000000 in
set_option maxRecDepth 100000 in
theorem st1_7 (h : Hp) (o : Nat) : (hI1 h o).2.2 o 7 = some (o + 39) := by
  unfold hI1
  simp [sI, sL, sR, zr, hI2_old, hI3_old, hI4_old]
theorem hall1 (K : Ly) (h : Hp) (o j : Nat) (hj : j < 8) : tV (fc 13 j) (hI1 h o) o j = tV (fc 1 j) (hI1 h o) o j := by
  by_cases hs : fc 13 j = fc 1 j
  · rw [hs]
  · have hm : j = 0 ∨ j = 4 ∨ j = 5 ∨ j = 6 ∨ j = 7 := (show ∀ j, j < 8 → ¬ fc 13 j = fc 1 j → (j = 0 ∨ j = 4 ∨ j = 5 ∨ j = 6 ∨ j = 7) by decide +kernel) j hj hs
    rcases hm with rfl | rfl | rfl | rfl | rfl
    · show va_rf ((hI1 h o).2.2 o 0) = .ref (o + 1)
      rw [st1_0]; rfl
    · show va_rf ((hI1 h o).2.2 o 4) = .ref (o + 2)
      rw [st1_4]; rfl
    · show va_rf ((hI1 h o).2.2 o 5) = .ref (o + 3)
      rw [st1_5]; rfl
    · show va_rf ((hI1 h o).2.2 o 6) = .ref (o + 30)
      rw [st1_6]; rfl
    · show va_rf ((hI1 h o).2.2 o 7) = .ref (o + 39)
      rw [st1_7]; rfl
set_option maxHeartbeats 40000000 in
set_option maxRecDepth 100000 in
theorem ci1 {sp : Sp} {K : Ly} {h : Hp} {o : Nat} (hk : K o = some (.inl 13)) : ConI sp y1_init prog_11_method_1_code 1 2 45 1235 o (o + 1) K h (o + 46) (kI1 K o) (hI1 h o) := by
  refine ConI.of (by decide) rfl (by decide) (fun Γ X O Q => ?_)
  refine g_aload_n (n := 0) (sz := o + 1) X (by decide +kernel) 0 rfl ?_
  refine i_obj (idx := 3) (sz := o + 1) X (by decide +kernel) (in_c1 35 rfl rfl) ob_i ob_c (by decide) (Nat.le_of_ble_eq_true rfl) ?_
  refine g_aload_n (n := 0) (sz := o + 1) X (by decide +kernel) 0 rfl ?_
  refine g_sipush (n := 600) (x := (600 : Int32)) (sz := o + 1) X (by decide +kernel) (by decide) ?_
  refine i_newa (aty := .byte) (t := 1) (n := 600) (sz := o + 1) X O (by decide +kernel) (by decide) rfl ac_1 rfl (by decide) (by decide) (by decide) (by decide) (by decide) ?_
  obtain ⟨K1, eK1⟩ : ∃ q, q = kS K (o + 1) (.inr (1, 600)) := ⟨_, rfl⟩
  rw [← eK1]
  obtain ⟨h1, eh1⟩ : ∃ q, q = zr h (o + 1) := ⟨_, rfl⟩
  rw [← eh1]
  have p1_o : K1 (o) = some (.inl 13) := by rw [eK1]; exact kS_ne hk (by omega)
  have q1 : K1 (o + 1) = some (.inr (1, 600)) := by rw [eK1]; exact kS_eq
  obtain ⟨h2, eh2⟩ : ∃ q, q = sR h1 o 0 (some (o + 1)) := ⟨_, rfl⟩
  refine i_putF (h' := h2) (ty := .array (.byte)) (sz := o + 2) X O (by decide +kernel) fl1_9r.1 (fun C T N h => by cases h; exact ⟨rfl, by decide +kernel⟩) (fun C T N h => by cases h; rfl) rfl rfl p1_o (by rw [fl1_9r.2, eh2]; exact Wr.r (x := some (o + 1))) ?_
  refine g_aload_n (n := 0) (sz := o + 2) X (by decide +kernel) 0 rfl ?_
  refine g_iconst (n := 0) (x := (0 : Int32)) (sz := o + 2) X (by decide +kernel) (by decide) ?_
  obtain ⟨h3, eh3⟩ : ∃ q, q = sI h2 o 1 (0 : Int32) := ⟨_, rfl⟩
  refine g_putf (h' := h3) (ty := .int) (sz := o + 2) X (by decide +kernel) fl1_15r.1 (fun C T N h => by cases h; exact ⟨rfl, by decide +kernel⟩) rfl rfl p1_o (by rw [fl1_15r.2, eh3]; exact Wr.i) ?_
  refine g_aload_n (n := 0) (sz := o + 2) X (by decide +kernel) 0 rfl ?_
  refine g_iconst (n := 0) (x := (0 : Int32)) (sz := o + 2) X (by decide +kernel) (by decide) ?_
  obtain ⟨h4, eh4⟩ : ∃ q, q = sI h3 o 2 (0 : Int32) := ⟨_, rfl⟩
  refine g_putf (h' := h4) (ty := .int) (sz := o + 2) X (by decide +kernel) fl1_19r.1 (fun C T N h => by cases h; exact ⟨rfl, by decide +kernel⟩) rfl rfl p1_o (by rw [fl1_19r.2, eh4]; exact Wr.i) ?_
  refine g_aload_n (n := 0) (sz := o + 2) X (by decide +kernel) 0 rfl ?_
  refine g_iconst (n := -1) (x := (-1 : Int32)) (sz := o + 2) X (by decide +kernel) (by decide) ?_
  obtain ⟨h5, eh5⟩ : ∃ q, q = sI h4 o 3 (-1 : Int32) := ⟨_, rfl⟩
  refine g_putf (h' := h5) (ty := .int) (sz := o + 2) X (by decide +kernel) fl1_22r.1 (fun C T N h => by cases h; exact ⟨rfl, by decide +kernel⟩) rfl rfl p1_o (by rw [fl1_22r.2, eh5]; exact Wr.i) ?_
  refine g_aload_n (n := 0) (sz := o + 2) X (by decide +kernel) 0 rfl ?_
  refine g_iconst (n := 3) (x := (3 : Int32)) (sz := o + 2) X (by decide +kernel) (by decide) ?_
  refine i_newa (aty := .int) (t := 0) (n := 3) (sz := o + 2) X O (by decide +kernel) (by decide) rfl ac_0 rfl (by decide) (by decide) (by decide) (by decide) (by decide) ?_
  obtain ⟨K2, eK2⟩ : ∃ q, q = kS K1 (o + 2) (.inr (0, 3)) := ⟨_, rfl⟩
  rw [← eK2]
  obtain ⟨h6, eh6⟩ : ∃ q, q = zr h5 (o + 2) := ⟨_, rfl⟩
  rw [← eh6]
  have p2_o : K2 (o) = some (.inl 13) := by rw [eK2]; exact kS_ne p1_o (by omega)
  have q2 : K2 (o + 2) = some (.inr (0, 3)) := by rw [eK2]; exact kS_eq
  obtain ⟨h7, eh7⟩ : ∃ q, q = sR h6 o 4 (some (o + 2)) := ⟨_, rfl⟩
  refine i_putF (h' := h7) (ty := .array (.int)) (sz := o + 3) X O (by decide +kernel) fl1_25r.1 (fun C T N h => by cases h; exact ⟨rfl, by decide +kernel⟩) (fun C T N h => by cases h; rfl) rfl rfl p2_o (by rw [fl1_25r.2, eh7]; exact Wr.r (x := some (o + 2))) ?_
  refine g_aload_n (n := 0) (sz := o + 3) X (by decide +kernel) 0 rfl ?_
  refine g_iconst (n := 2) (x := (2 : Int32)) (sz := o + 3) X (by decide +kernel) (by decide) ?_
  refine i_anew (t := 5) (n := 2) (idx := 29) (sz := o + 3) X O Q (by decide +kernel) rfl rfl (in_c1 36 rfl rfl) (by decide) (by decide) (by decide) (by decide) (by decide) ?_
  obtain ⟨K3, eK3⟩ : ∃ q, q = kS K2 (o + 3) (.inr (5, 2)) := ⟨_, rfl⟩
  rw [← eK3]
  obtain ⟨h8, eh8⟩ : ∃ q, q = zr h7 (o + 3) := ⟨_, rfl⟩
  rw [← eh8]
  have p3_o : K3 (o) = some (.inl 13) := by rw [eK3]; exact kS_ne p2_o (by omega)
  have q3 : K3 (o + 3) = some (.inr (5, 2)) := by rw [eK3]; exact kS_eq
  refine g_dup (sz := o + 4) X (by decide +kernel) rfl ?_
  refine g_iconst (n := 0) (x := (0 : Int32)) (sz := o + 4) X (by decide +kernel) (by decide) ?_
  refine i_new (idx := 29) (sz := o + 4) X O (by decide +kernel) ck14 (in_c1 36 rfl rfl) inst2 ini2 def2 raw2 (by decide) (by decide) ?_
  obtain ⟨K4, eK4⟩ : ∃ q, q = kS K3 (o + 4) (.inl 14) := ⟨_, rfl⟩
  rw [← eK4]
  obtain ⟨h9, eh9⟩ : ∃ q, q = zr h8 (o + 4) := ⟨_, rfl⟩
  rw [← eh9]
  have p4_o : K4 (o) = some (.inl 13) := by rw [eK4]; exact kS_ne p3_o (by omega)
  have p4_o3 : K4 (o + 3) = some (.inr (5, 2)) := by rw [eK4]; exact kS_ne q3 (by omega)
  have q4 : K4 (o + 4) = some (.inl 14) := by rw [eK4]; exact kS_eq
  refine g_dup (sz := o + 5) X (by decide +kernel) rfl ?_
  refine i_call (o := o + 4) (idx := 31) (sz := o + 5) X O Q (by decide +kernel) mi1_31 (by decide) (Nat.le_of_ble_eq_true rfl) (by decide) (by decide) (ci2 q4) ?_
  obtain ⟨K5, eK5⟩ : ∃ q, q = kI2 K4 (o + 4) := ⟨_, rfl⟩
  rw [← eK5]
  obtain ⟨h10, eh10⟩ : ∃ q, q = hI2 h9 (o + 4) := ⟨_, rfl⟩
  rw [← eh10]
  have p5_o : K5 (o) = some (.inl 13) := by rw [eK5, kI2_old (by omega)]; exact p4_o
  have p5_o3 : K5 (o + 3) = some (.inr (5, 2)) := by rw [eK5, kI2_old (by omega)]; exact p4_o3
  have p5_o4 : K5 (o + 4) = some (.inl 2) := by rw [eK5]; exact kI2_o
  obtain ⟨h11, eh11⟩ : ∃ q, sR h10 (o + 3) (0 : Int32).toNatClampNeg (some (o + 4)) = q := ⟨_, rfl⟩
  refine g_rast (ci := 2) (sz := o + 17) X (by decide +kernel) p5_o3 rfl rfl rfl p5_o4 (by decide) eh11 ?_
  refine g_dup (sz := o + 17) X (by decide +kernel) rfl ?_
  refine g_iconst (n := 1) (x := (1 : Int32)) (sz := o + 17) X (by decide +kernel) (by decide) ?_
  refine i_new (idx := 29) (sz := o + 17) X O (by decide +kernel) ck14 (in_c1 36 rfl rfl) inst2 ini2 def2 raw2 (by decide) (by decide) ?_
  obtain ⟨K6, eK6⟩ : ∃ q, q = kS K5 (o + 17) (.inl 14) := ⟨_, rfl⟩
  rw [← eK6]
  obtain ⟨h12, eh12⟩ : ∃ q, q = zr h11 (o + 17) := ⟨_, rfl⟩
  rw [← eh12]
  have p6_o : K6 (o) = some (.inl 13) := by rw [eK6]; exact kS_ne p5_o (by omega)
  have p6_o3 : K6 (o + 3) = some (.inr (5, 2)) := by rw [eK6]; exact kS_ne p5_o3 (by omega)
  have q6 : K6 (o + 17) = some (.inl 14) := by rw [eK6]; exact kS_eq
  refine g_dup (sz := o + 18) X (by decide +kernel) rfl ?_
  refine i_call (o := o + 17) (idx := 31) (sz := o + 18) X O Q (by decide +kernel) mi1_31 (by decide) (Nat.le_of_ble_eq_true rfl) (by decide) (by decide) (ci2 q6) ?_
  obtain ⟨K7, eK7⟩ : ∃ q, q = kI2 K6 (o + 17) := ⟨_, rfl⟩
  rw [← eK7]
  obtain ⟨h13, eh13⟩ : ∃ q, q = hI2 h12 (o + 17) := ⟨_, rfl⟩
  rw [← eh13]
  have p7_o : K7 (o) = some (.inl 13) := by rw [eK7, kI2_old (by omega)]; exact p6_o
  have p7_o3 : K7 (o + 3) = some (.inr (5, 2)) := by rw [eK7, kI2_old (by omega)]; exact p6_o3
  have p7_o17 : K7 (o + 17) = some (.inl 2) := by rw [eK7]; exact kI2_o
  obtain ⟨h14, eh14⟩ : ∃ q, sR h13 (o + 3) (1 : Int32).toNatClampNeg (some (o + 17)) = q := ⟨_, rfl⟩
  refine g_rast (ci := 2) (sz := o + 30) X (by decide +kernel) p7_o3 rfl rfl rfl p7_o17 (by decide) eh14 ?_
  obtain ⟨h15, eh15⟩ : ∃ q, q = sR h14 o 5 (some (o + 3)) := ⟨_, rfl⟩
  refine i_putF (h' := h15) (ty := .array (.object "AskedNames$Net")) (sz := o + 30) X O (by decide +kernel) fl1_32r.1 (fun C T N h => by cases h; exact ⟨rfl, by decide +kernel⟩) (fun C T N h => by cases h; rfl) rfl rfl p7_o (by rw [fl1_32r.2, eh15]; exact Wr.r (x := some (o + 3))) ?_
  refine g_aload_n (n := 0) (sz := o + 30) X (by decide +kernel) 0 rfl ?_
  refine g_iconst (n := 2) (x := (2 : Int32)) (sz := o + 30) X (by decide +kernel) (by decide) ?_
  refine i_anew (t := 6) (n := 2) (idx := 36) (sz := o + 30) X O Q (by decide +kernel) rfl rfl (in_c1 125 rfl rfl) (by decide) (by decide) (by decide) (by decide) (by decide) ?_
  obtain ⟨K8, eK8⟩ : ∃ q, q = kS K7 (o + 30) (.inr (6, 2)) := ⟨_, rfl⟩
  rw [← eK8]
  obtain ⟨h16, eh16⟩ : ∃ q, q = zr h15 (o + 30) := ⟨_, rfl⟩
  rw [← eh16]
  have p8_o : K8 (o) = some (.inl 13) := by rw [eK8]; exact kS_ne p7_o (by omega)
  have q8 : K8 (o + 30) = some (.inr (6, 2)) := by rw [eK8]; exact kS_eq
  refine g_dup (sz := o + 31) X (by decide +kernel) rfl ?_
  refine g_iconst (n := 0) (x := (0 : Int32)) (sz := o + 31) X (by decide +kernel) (by decide) ?_
  refine i_new (idx := 36) (sz := o + 31) X O (by decide +kernel) ck15 (in_c1 125 rfl rfl) inst3 ini3 def3 raw3 (by decide) (by decide) ?_
  obtain ⟨K9, eK9⟩ : ∃ q, q = kS K8 (o + 31) (.inl 15) := ⟨_, rfl⟩
  rw [← eK9]
  obtain ⟨h17, eh17⟩ : ∃ q, q = zr h16 (o + 31) := ⟨_, rfl⟩
  rw [← eh17]
  have p9_o : K9 (o) = some (.inl 13) := by rw [eK9]; exact kS_ne p8_o (by omega)
  have p9_o30 : K9 (o + 30) = some (.inr (6, 2)) := by rw [eK9]; exact kS_ne q8 (by omega)
  have q9 : K9 (o + 31) = some (.inl 15) := by rw [eK9]; exact kS_eq
  refine g_dup (sz := o + 32) X (by decide +kernel) rfl ?_
  refine i_call (o := o + 31) (idx := 38) (sz := o + 32) X O Q (by decide +kernel) mi1_38 (by decide) (Nat.le_of_ble_eq_true rfl) (by decide) (by decide) (ci3 q9) ?_
  obtain ⟨K10, eK10⟩ : ∃ q, q = kI3 K9 (o + 31) := ⟨_, rfl⟩
  rw [← eK10]
  obtain ⟨h18, eh18⟩ : ∃ q, q = hI3 h17 (o + 31) := ⟨_, rfl⟩
  rw [← eh18]
  have p10_o : K10 (o) = some (.inl 13) := by rw [eK10, kI3_old (by omega)]; exact p9_o
  have p10_o30 : K10 (o + 30) = some (.inr (6, 2)) := by rw [eK10, kI3_old (by omega)]; exact p9_o30
  have p10_o31 : K10 (o + 31) = some (.inl 3) := by rw [eK10]; exact kI3_o
  obtain ⟨h19, eh19⟩ : ∃ q, sR h18 (o + 30) (0 : Int32).toNatClampNeg (some (o + 31)) = q := ⟨_, rfl⟩
  refine g_rast (ci := 3) (sz := o + 35) X (by decide +kernel) p10_o30 rfl rfl rfl p10_o31 (by decide) eh19 ?_
  refine g_dup (sz := o + 35) X (by decide +kernel) rfl ?_
  refine g_iconst (n := 1) (x := (1 : Int32)) (sz := o + 35) X (by decide +kernel) (by decide) ?_
  refine i_new (idx := 36) (sz := o + 35) X O (by decide +kernel) ck15 (in_c1 125 rfl rfl) inst3 ini3 def3 raw3 (by decide) (by decide) ?_
  obtain ⟨K11, eK11⟩ : ∃ q, q = kS K10 (o + 35) (.inl 15) := ⟨_, rfl⟩
  rw [← eK11]
  obtain ⟨h20, eh20⟩ : ∃ q, q = zr h19 (o + 35) := ⟨_, rfl⟩
  rw [← eh20]
  have p11_o : K11 (o) = some (.inl 13) := by rw [eK11]; exact kS_ne p10_o (by omega)
  have p11_o30 : K11 (o + 30) = some (.inr (6, 2)) := by rw [eK11]; exact kS_ne p10_o30 (by omega)
  have q11 : K11 (o + 35) = some (.inl 15) := by rw [eK11]; exact kS_eq
  refine g_dup (sz := o + 36) X (by decide +kernel) rfl ?_
  refine i_call (o := o + 35) (idx := 38) (sz := o + 36) X O Q (by decide +kernel) mi1_38 (by decide) (Nat.le_of_ble_eq_true rfl) (by decide) (by decide) (ci3 q11) ?_
  obtain ⟨K12, eK12⟩ : ∃ q, q = kI3 K11 (o + 35) := ⟨_, rfl⟩
  rw [← eK12]
  obtain ⟨h21, eh21⟩ : ∃ q, q = hI3 h20 (o + 35) := ⟨_, rfl⟩
  rw [← eh21]
  have p12_o : K12 (o) = some (.inl 13) := by rw [eK12, kI3_old (by omega)]; exact p11_o
  have p12_o30 : K12 (o + 30) = some (.inr (6, 2)) := by rw [eK12, kI3_old (by omega)]; exact p11_o30
  have p12_o35 : K12 (o + 35) = some (.inl 3) := by rw [eK12]; exact kI3_o
  obtain ⟨h22, eh22⟩ : ∃ q, sR h21 (o + 30) (1 : Int32).toNatClampNeg (some (o + 35)) = q := ⟨_, rfl⟩
  refine g_rast (ci := 3) (sz := o + 39) X (by decide +kernel) p12_o30 rfl rfl rfl p12_o35 (by decide) eh22 ?_
  obtain ⟨h23, eh23⟩ : ∃ q, q = sR h22 o 6 (some (o + 30)) := ⟨_, rfl⟩
  refine i_putF (h' := h23) (ty := .array (.object "AskedNames$Run")) (sz := o + 39) X O (by decide +kernel) fl1_39r.1 (fun C T N h => by cases h; exact ⟨rfl, by decide +kernel⟩) (fun C T N h => by cases h; rfl) rfl rfl p12_o (by rw [fl1_39r.2, eh23]; exact Wr.r (x := some (o + 30))) ?_
  refine g_aload_n (n := 0) (sz := o + 39) X (by decide +kernel) 0 rfl ?_
  refine g_iconst (n := 2) (x := (2 : Int32)) (sz := o + 39) X (by decide +kernel) (by decide) ?_
  refine i_anew (t := 7) (n := 2) (idx := 43) (sz := o + 39) X O Q (by decide +kernel) rfl rfl (in_c1 154 rfl rfl) (by decide) (by decide) (by decide) (by decide) (by decide) ?_
  obtain ⟨K13, eK13⟩ : ∃ q, q = kS K12 (o + 39) (.inr (7, 2)) := ⟨_, rfl⟩
  rw [← eK13]
  obtain ⟨h24, eh24⟩ : ∃ q, q = zr h23 (o + 39) := ⟨_, rfl⟩
  rw [← eh24]
  have p13_o : K13 (o) = some (.inl 13) := by rw [eK13]; exact kS_ne p12_o (by omega)
  have q13 : K13 (o + 39) = some (.inr (7, 2)) := by rw [eK13]; exact kS_eq
  refine g_dup (sz := o + 40) X (by decide +kernel) rfl ?_
  refine g_iconst (n := 0) (x := (0 : Int32)) (sz := o + 40) X (by decide +kernel) (by decide) ?_
  refine i_new (idx := 43) (sz := o + 40) X O (by decide +kernel) ck16 (in_c1 154 rfl rfl) inst4 ini4 def4 raw4 (by decide) (by decide) ?_
  obtain ⟨K14, eK14⟩ : ∃ q, q = kS K13 (o + 40) (.inl 16) := ⟨_, rfl⟩
  rw [← eK14]
  obtain ⟨h25, eh25⟩ : ∃ q, q = zr h24 (o + 40) := ⟨_, rfl⟩
  rw [← eh25]
  have p14_o : K14 (o) = some (.inl 13) := by rw [eK14]; exact kS_ne p13_o (by omega)
  have p14_o39 : K14 (o + 39) = some (.inr (7, 2)) := by rw [eK14]; exact kS_ne q13 (by omega)
  have q14 : K14 (o + 40) = some (.inl 16) := by rw [eK14]; exact kS_eq
  refine g_dup (sz := o + 41) X (by decide +kernel) rfl ?_
  refine i_call (o := o + 40) (idx := 45) (sz := o + 41) X O Q (by decide +kernel) mi1_45 (by decide) (Nat.le_of_ble_eq_true rfl) (by decide) (by decide) (ci4 q14) ?_
  obtain ⟨K15, eK15⟩ : ∃ q, q = kI4 K14 (o + 40) := ⟨_, rfl⟩
  rw [← eK15]
  obtain ⟨h26, eh26⟩ : ∃ q, q = hI4 h25 (o + 40) := ⟨_, rfl⟩
  rw [← eh26]
  have p15_o : K15 (o) = some (.inl 13) := by rw [eK15, kI4_old (by omega)]; exact p14_o
  have p15_o39 : K15 (o + 39) = some (.inr (7, 2)) := by rw [eK15, kI4_old (by omega)]; exact p14_o39
  have p15_o40 : K15 (o + 40) = some (.inl 4) := by rw [eK15]; exact kI4_o
  obtain ⟨h27, eh27⟩ : ∃ q, sR h26 (o + 39) (0 : Int32).toNatClampNeg (some (o + 40)) = q := ⟨_, rfl⟩
  refine g_rast (ci := 4) (sz := o + 43) X (by decide +kernel) p15_o39 rfl rfl rfl p15_o40 (by decide) eh27 ?_
  refine g_dup (sz := o + 43) X (by decide +kernel) rfl ?_
  refine g_iconst (n := 1) (x := (1 : Int32)) (sz := o + 43) X (by decide +kernel) (by decide) ?_
  refine i_new (idx := 43) (sz := o + 43) X O (by decide +kernel) ck16 (in_c1 154 rfl rfl) inst4 ini4 def4 raw4 (by decide) (by decide) ?_
  obtain ⟨K16, eK16⟩ : ∃ q, q = kS K15 (o + 43) (.inl 16) := ⟨_, rfl⟩
  rw [← eK16]
  obtain ⟨h28, eh28⟩ : ∃ q, q = zr h27 (o + 43) := ⟨_, rfl⟩
  rw [← eh28]
  have p16_o : K16 (o) = some (.inl 13) := by rw [eK16]; exact kS_ne p15_o (by omega)
  have p16_o39 : K16 (o + 39) = some (.inr (7, 2)) := by rw [eK16]; exact kS_ne p15_o39 (by omega)
  have q16 : K16 (o + 43) = some (.inl 16) := by rw [eK16]; exact kS_eq
  refine g_dup (sz := o + 44) X (by decide +kernel) rfl ?_
  refine i_call (o := o + 43) (idx := 45) (sz := o + 44) X O Q (by decide +kernel) mi1_45 (by decide) (Nat.le_of_ble_eq_true rfl) (by decide) (by decide) (ci4 q16) ?_
  obtain ⟨K17, eK17⟩ : ∃ q, q = kI4 K16 (o + 43) := ⟨_, rfl⟩
  rw [← eK17]
  obtain ⟨h29, eh29⟩ : ∃ q, q = hI4 h28 (o + 43) := ⟨_, rfl⟩
  rw [← eh29]
  have p17_o : K17 (o) = some (.inl 13) := by rw [eK17, kI4_old (by omega)]; exact p16_o
  have p17_o39 : K17 (o + 39) = some (.inr (7, 2)) := by rw [eK17, kI4_old (by omega)]; exact p16_o39
  have p17_o43 : K17 (o + 43) = some (.inl 4) := by rw [eK17]; exact kI4_o
  obtain ⟨h30, eh30⟩ : ∃ q, sR h29 (o + 39) (1 : Int32).toNatClampNeg (some (o + 43)) = q := ⟨_, rfl⟩
  refine g_rast (ci := 4) (sz := o + 46) X (by decide +kernel) p17_o39 rfl rfl rfl p17_o43 (by decide) eh30 ?_
  obtain ⟨h31, eh31⟩ : ∃ q, q = sR h30 o 7 (some (o + 39)) := ⟨_, rfl⟩
  refine i_putF (h' := h31) (ty := .array (.object "AskedNames$Log")) (sz := o + 46) X O (by decide +kernel) fl1_46r.1 (fun C T N h => by cases h; exact ⟨rfl, by decide +kernel⟩) (fun C T N h => by cases h; rfl) rfl rfl p17_o (by rw [fl1_46r.2, eh31]; exact Wr.r (x := some (o + 39))) ?_
  refine i_fin (ci := 1) (sz := o + 46) X p17_o rfl rfl ?_ ?_
  · intro j hj
    subst eh31
    subst eh30
    subst eh29
    subst eK17
    subst eh28
    subst eK16
    subst eh27
    subst eh26
    subst eK15
    subst eh25
    subst eK14
    subst eh24
    subst eK13
    subst eh23
    subst eh22
    subst eh21
    subst eK12
    subst eh20
    subst eK11
    subst eh19
    subst eh18
    subst eK10
    subst eh17
    subst eK9
    subst eh16
    subst eK8
    subst eh15
    subst eh14
    subst eh13
    subst eK7
    subst eh12
    subst eK6
    subst eh11
    subst eh10
    subst eK5
    subst eh9
    subst eK4
    subst eh8
    subst eK3
    subst eh7
    subst eh6
    subst eK2
    subst eh5
    subst eh4
    subst eh3
    subst eh2
    subst eh1
    subst eK1
    exact hall1 K h o j hj
  · subst eh31
    subst eh30
    subst eh29
    subst eK17
    subst eh28
    subst eK16
    subst eh27
    subst eh26
    subst eK15
    subst eh25
    subst eK14
    subst eh24
    subst eK13
    subst eh23
    subst eh22
    subst eh21
    subst eK12
    subst eh20
    subst eK11
    subst eh19
    subst eh18
    subst eK10
    subst eh17
    subst eK9
    subst eh16
    subst eK8
    subst eh15
    subst eh14
    subst eh13
    subst eK7
    subst eh12
    subst eK6
    subst eh11
    subst eh10
    subst eK5
    subst eh9
    subst eK4
    subst eh8
    subst eK3
    subst eh7
    subst eh6
    subst eK2
    subst eh5
    subst eh4
    subst eh3
    subst eh2
    subst eh1
    subst eK1
    exact i_ret (sz := o + 46) X O (by decide +kernel) (by decide) (by decide)
theorem hI1_old {h : Hp} {o a : Nat} (ha : a < o) : (∀ k, (hI1 h o).1 a k = h.1 a k) ∧ (∀ k, (hI1 h o).2.1 a k = h.2.1 a k) ∧ ∀ k, (hI1 h o).2.2 a k = h.2.2 a k := by
  unfold hI1
  repeat (first | exact ⟨fun _ => rfl, fun _ => rfl, fun _ => rfl⟩ | refine o_zr (by omega) ?_ | refine o_sI (by omega) ?_ | refine o_sL (by omega) ?_ | refine o_sR (by omega) ?_ | refine o_tr (hI2_old (by omega)) ?_ | refine o_tr (hI3_old (by omega)) ?_ | refine o_tr (hI4_old (by omega)) ?_)
