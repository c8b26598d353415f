def kI0 (K : Ly) (o : Nat) : Ly := (kS (kS (kS (kS (kI10 (kS (kI5 (kS (kS (kI1 (kS (kI1 (kS (kI1 (kS (kS (kI1 (kS K (o + 1) (.inl 13)) (o + 1)) (o + 47) (.inr (4, 3))) (o + 48) (.inl 13)) (o + 48)) (o + 94) (.inl 13)) (o + 94)) (o + 140) (.inl 13)) (o + 140)) (o + 186) (.inr (2, 3))) (o + 187) (.inl 17)) (o + 187)) (o + 210) (.inl 22)) (o + 210)) (o + 1037) (.inr (0, 7))) (o + 1038) (.inr (0, 16))) (o + 1039) (.inr (0, 40))) o (.inl 0))
def hI0 (h : Hp) (o : Nat) : Hp := (sR (zr (sR (zr (sR (zr (sR (hI10 (zr (sR (hI5 (zr (sR (zr (sR (sR (hI1 (zr (sR (hI1 (zr (sR (hI1 (zr (zr (sR (hI1 (zr h (o + 1)) (o + 1)) o 0 (some (o + 1))) (o + 47)) (o + 48)) (o + 48)) (o + 47) (0 : Int32).toNatClampNeg (some (o + 48))) (o + 94)) (o + 94)) (o + 47) (1 : Int32).toNatClampNeg (some (o + 94))) (o + 140)) (o + 140)) (o + 47) (2 : Int32).toNatClampNeg (some (o + 140))) o 1 (some (o + 47))) (o + 186)) o 2 (some (o + 186))) (o + 187)) (o + 187)) o 3 (some (o + 187))) (o + 210)) (o + 210)) o 4 (some (o + 210))) (o + 1037)) o 5 (some (o + 1037))) (o + 1038)) o 6 (some (o + 1038))) (o + 1039)) o 7 (some (o + 1039)))
theorem kI0_o {K : Ly} {o : Nat} : kI0 K o o = some (.inl 0) := by simp [kI0, kS]
theorem kI0_old {K : Ly} {o a : Nat} (ha : a < o) : kI0 K o a = K a := by
  unfold kI0
  repeat (first | rw [show ∀ (K : Ly) (b : Nat) (kd : Kd), a ≠ b → kS K b kd a = K a from fun K b kd hb => by simp [kS, hb]] | rw [kI1_old (by omega)] | rw [kI5_old (by omega)] | rw [kI10_old (by omega)] | omega | rfl)
set_option maxHeartbeats 4000000 in
set_option maxRecDepth 100000 in
theorem st0_0 (h : Hp) (o : Nat) : (hI0 h o).2.2 o 0 = some (o + 1) := by
  unfold hI0
  simp [sI, sL, sR, zr, hI1_old, hI5_old, hI10_old]
set_option maxHeartbeats 4000000 in
set_option maxRecDepth 100000 in
theorem st0_1 (h : Hp) (o : Nat) : (hI0 h o).2.2 o 1 = some (o + 47) := by
  unfold hI0
  simp [sI, sL, sR, zr, hI1_old, hI5_old, hI10_old]
set_option maxHeartbeats 4000000 in
set_option maxRecDepth 100000 in
theorem st0_2 (h : Hp) (o : Nat) : (hI0 h o).2.2 o 2 = some (o + 186) := by
  unfold hI0
  simp [sI, sL, sR, zr, hI1_old, hI5_old, hI10_old]
set_option maxHeartbeats 4000000 in
set_option maxRecDepth 100000 in
theorem st0_3 (h : Hp) (o : Nat) : (hI0 h o).2.2 o 3 = some (o + 187) := by
  unfold hI0
  simp [sI, sL, sR, zr, hI1_old, hI5_old, hI10_old]
set_option maxHeartbeats 4000000 in
set_option maxRecDepth 100000 in
theorem st0_4 (h : Hp) (o : Nat) : (hI0 h o).2.2 o 4 = some (o + 210) := by
  unfold hI0
  simp [sI, sL, sR, zr, hI1_old, hI5_old, hI10_old]
set_option maxHeartbeats 4000000 in
set_option maxRecDepth 100000 in
theorem st0_5 (h : Hp) (o : Nat) : (hI0 h o).2.2 o 5 = some (o + 1037) := by
  unfold hI0
  simp [sI, sL, sR, zr, hI1_old, hI5_old, hI10_old]
set_option maxHeartbeats 4000000 in
set_option maxRecDepth 100000 in
theorem st0_6 (h : Hp) (o : Nat) : (hI0 h o).2.2 o 6 = some (o + 1038) := by
  unfold hI0
  simp [sI, sL, sR, zr, hI1_old, hI5_old, hI10_old]
set_option maxHeartbeats 4000000 in
set_option maxRecDepth 100000 in
theorem st0_7 (h : Hp) (o : Nat) : (hI0 h o).2.2 o 7 = some (o + 1039) := by
  unfold hI0
  simp [sI, sL, sR, zr, hI1_old, hI5_old, hI10_old]
theorem hall0 (K : Ly) (h : Hp) (o j : Nat) (hj : j < 8) : tV (fc 12 j) (hI0 h o) o j = tV (fc 0 j) (hI0 h o) o j := by
  by_cases hs : fc 12 j = fc 0 j
  · rw [hs]
  · have hm : j = 0 ∨ j = 1 ∨ j = 2 ∨ j = 3 ∨ j = 4 ∨ j = 5 ∨ j = 6 ∨ j = 7 := (show ∀ j, j < 8 → ¬ fc 12 j = fc 0 j → (j = 0 ∨ j = 1 ∨ j = 2 ∨ j = 3 ∨ j = 4 ∨ j = 5 ∨ j = 6 ∨ j = 7) by decide +kernel) j hj hs
    rcases hm with rfl | rfl | rfl | rfl | rfl | rfl | rfl | rfl
    · show va_rf ((hI0 h o).2.2 o 0) = .ref (o + 1)
      rw [st0_0]; rfl
    · show va_rf ((hI0 h o).2.2 o 1) = .ref (o + 47)
      rw [st0_1]; rfl
    · show va_rf ((hI0 h o).2.2 o 2) = .ref (o + 186)
      rw [st0_2]; rfl
    · show va_rf ((hI0 h o).2.2 o 3) = .ref (o + 187)
      rw [st0_3]; rfl
    · show va_rf ((hI0 h o).2.2 o 4) = .ref (o + 210)
      rw [st0_4]; rfl
    · show va_rf ((hI0 h o).2.2 o 5) = .ref (o + 1037)
      rw [st0_5]; rfl
    · show va_rf ((hI0 h o).2.2 o 6) = .ref (o + 1038)
      rw [st0_6]; rfl
    · show va_rf ((hI0 h o).2.2 o 7) = .ref (o + 1039)
      rw [st0_7]; rfl
set_option maxHeartbeats 40000000 in
set_option maxRecDepth 100000 in
theorem ci0 {sp : Sp} {K : Ly} {h : Hp} {o : Nat} (hk : K o = some (.inl 12)) : ConI sp y0_init prog_1_method_1_code 1 3 1039 15997 o (o + 1) K h (o + 1040) (kI0 K o) (hI0 h o) := by
  refine ConI.of (by decide) rfl (by decide) (fun Γ X O Q => ?_)
  refine g_aload_n (n := 0) (sz := o + 1) X (by decide +kernel) 0 rfl ?_
  refine i_obj (idx := 1) (sz := o + 1) X (by decide +kernel) (in_c1 27 rfl rfl) ob_i ob_c (by decide) (Nat.le_of_ble_eq_true rfl) ?_
  refine g_aload_n (n := 0) (sz := o + 1) X (by decide +kernel) 0 rfl ?_
  refine i_new (idx := 7) (sz := o + 1) X O (by decide +kernel) ck13 (in_c1 30 rfl rfl) inst1 ini1 def1 raw1 (by decide) (by decide) ?_
  obtain ⟨K1, eK1⟩ : ∃ q, q = kS K (o + 1) (.inl 13) := ⟨_, rfl⟩
  rw [← eK1]
  obtain ⟨h1, eh1⟩ : ∃ q, q = zr h (o + 1) := ⟨_, rfl⟩
  rw [← eh1]
  have p1_o : K1 (o) = some (.inl 12) := by rw [eK1]; exact kS_ne hk (by omega)
  have q1 : K1 (o + 1) = some (.inl 13) := by rw [eK1]; exact kS_eq
  refine g_dup (sz := o + 2) X (by decide +kernel) rfl ?_
  refine i_call (o := o + 1) (idx := 9) (sz := o + 2) X O Q (by decide +kernel) mi0_9 (by decide) (Nat.le_of_ble_eq_true rfl) (by decide) (by decide) (ci1 q1) ?_
  obtain ⟨K2, eK2⟩ : ∃ q, q = kI1 K1 (o + 1) := ⟨_, rfl⟩
  rw [← eK2]
  obtain ⟨h2, eh2⟩ : ∃ q, q = hI1 h1 (o + 1) := ⟨_, rfl⟩
  rw [← eh2]
  have p2_o : K2 (o) = some (.inl 12) := by rw [eK2, kI1_old (by omega)]; exact p1_o
  have p2_o1 : K2 (o + 1) = some (.inl 1) := by rw [eK2]; exact kI1_o
  obtain ⟨h3, eh3⟩ : ∃ q, q = sR h2 o 0 (some (o + 1)) := ⟨_, rfl⟩
  refine i_putF (h' := h3) (ty := .object "AskedNames$Told") (sz := o + 47) X O (by decide +kernel) fl0_10r.1 (fun C T N h => by cases h; exact ⟨rfl, by decide +kernel⟩) (fun C T N h => by cases h; rfl) rfl rfl p2_o (by rw [fl0_10r.2, eh3]; exact Wr.r (x := some (o + 1))) ?_
  refine g_aload_n (n := 0) (sz := o + 47) X (by decide +kernel) 0 rfl ?_
  refine g_iconst (n := 3) (x := (3 : Int32)) (sz := o + 47) X (by decide +kernel) (by decide) ?_
  refine i_anew (t := 4) (n := 3) (idx := 7) (sz := o + 47) X O Q (by decide +kernel) rfl rfl (in_c1 30 rfl rfl) (by decide) (by decide) (by decide) (by decide) (by decide) ?_
  obtain ⟨K3, eK3⟩ : ∃ q, q = kS K2 (o + 47) (.inr (4, 3)) := ⟨_, rfl⟩
  rw [← eK3]
  obtain ⟨h4, eh4⟩ : ∃ q, q = zr h3 (o + 47) := ⟨_, rfl⟩
  rw [← eh4]
  have p3_o : K3 (o) = some (.inl 12) := by rw [eK3]; exact kS_ne p2_o (by omega)
  have q3 : K3 (o + 47) = some (.inr (4, 3)) := by rw [eK3]; exact kS_eq
  refine g_dup (sz := o + 48) X (by decide +kernel) rfl ?_
  refine g_iconst (n := 0) (x := (0 : Int32)) (sz := o + 48) X (by decide +kernel) (by decide) ?_
  refine i_new (idx := 7) (sz := o + 48) X O (by decide +kernel) ck13 (in_c1 30 rfl rfl) inst1 ini1 def1 raw1 (by decide) (by decide) ?_
  obtain ⟨K4, eK4⟩ : ∃ q, q = kS K3 (o + 48) (.inl 13) := ⟨_, rfl⟩
  rw [← eK4]
  obtain ⟨h5, eh5⟩ : ∃ q, q = zr h4 (o + 48) := ⟨_, rfl⟩
  rw [← eh5]
  have p4_o : K4 (o) = some (.inl 12) := by rw [eK4]; exact kS_ne p3_o (by omega)
  have p4_o47 : K4 (o + 47) = some (.inr (4, 3)) := by rw [eK4]; exact kS_ne q3 (by omega)
  have q4 : K4 (o + 48) = some (.inl 13) := by rw [eK4]; exact kS_eq
  refine g_dup (sz := o + 49) X (by decide +kernel) rfl ?_
  refine i_call (o := o + 48) (idx := 9) (sz := o + 49) X O Q (by decide +kernel) mi0_9 (by decide) (Nat.le_of_ble_eq_true rfl) (by decide) (by decide) (ci1 q4) ?_
  obtain ⟨K5, eK5⟩ : ∃ q, q = kI1 K4 (o + 48) := ⟨_, rfl⟩
  rw [← eK5]
  obtain ⟨h6, eh6⟩ : ∃ q, q = hI1 h5 (o + 48) := ⟨_, rfl⟩
  rw [← eh6]
  have p5_o : K5 (o) = some (.inl 12) := by rw [eK5, kI1_old (by omega)]; exact p4_o
  have p5_o47 : K5 (o + 47) = some (.inr (4, 3)) := by rw [eK5, kI1_old (by omega)]; exact p4_o47
  have p5_o48 : K5 (o + 48) = some (.inl 1) := by rw [eK5]; exact kI1_o
  obtain ⟨h7, eh7⟩ : ∃ q, sR h6 (o + 47) (0 : Int32).toNatClampNeg (some (o + 48)) = q := ⟨_, rfl⟩
  refine g_rast (ci := 1) (sz := o + 94) X (by decide +kernel) p5_o47 rfl rfl rfl p5_o48 (by decide) eh7 ?_
  refine g_dup (sz := o + 94) X (by decide +kernel) rfl ?_
  refine g_iconst (n := 1) (x := (1 : Int32)) (sz := o + 94) X (by decide +kernel) (by decide) ?_
  refine i_new (idx := 7) (sz := o + 94) X O (by decide +kernel) ck13 (in_c1 30 rfl rfl) inst1 ini1 def1 raw1 (by decide) (by decide) ?_
  obtain ⟨K6, eK6⟩ : ∃ q, q = kS K5 (o + 94) (.inl 13) := ⟨_, rfl⟩
  rw [← eK6]
  obtain ⟨h8, eh8⟩ : ∃ q, q = zr h7 (o + 94) := ⟨_, rfl⟩
  rw [← eh8]
  have p6_o : K6 (o) = some (.inl 12) := by rw [eK6]; exact kS_ne p5_o (by omega)
  have p6_o47 : K6 (o + 47) = some (.inr (4, 3)) := by rw [eK6]; exact kS_ne p5_o47 (by omega)
  have q6 : K6 (o + 94) = some (.inl 13) := by rw [eK6]; exact kS_eq
  refine g_dup (sz := o + 95) X (by decide +kernel) rfl ?_
  refine i_call (o := o + 94) (idx := 9) (sz := o + 95) X O Q (by decide +kernel) mi0_9 (by decide) (Nat.le_of_ble_eq_true rfl) (by decide) (by decide) (ci1 q6) ?_
  obtain ⟨K7, eK7⟩ : ∃ q, q = kI1 K6 (o + 94) := ⟨_, rfl⟩
  rw [← eK7]
  obtain ⟨h9, eh9⟩ : ∃ q, q = hI1 h8 (o + 94) := ⟨_, rfl⟩
  rw [← eh9]
  have p7_o : K7 (o) = some (.inl 12) := by rw [eK7, kI1_old (by omega)]; exact p6_o
  have p7_o47 : K7 (o + 47) = some (.inr (4, 3)) := by rw [eK7, kI1_old (by omega)]; exact p6_o47
  have p7_o94 : K7 (o + 94) = some (.inl 1) := by rw [eK7]; exact kI1_o
  obtain ⟨h10, eh10⟩ : ∃ q, sR h9 (o + 47) (1 : Int32).toNatClampNeg (some (o + 94)) = q := ⟨_, rfl⟩
  refine g_rast (ci := 1) (sz := o + 140) X (by decide +kernel) p7_o47 rfl rfl rfl p7_o94 (by decide) eh10 ?_
  refine g_dup (sz := o + 140) X (by decide +kernel) rfl ?_
  refine g_iconst (n := 2) (x := (2 : Int32)) (sz := o + 140) X (by decide +kernel) (by decide) ?_
  refine i_new (idx := 7) (sz := o + 140) X O (by decide +kernel) ck13 (in_c1 30 rfl rfl) inst1 ini1 def1 raw1 (by decide) (by decide) ?_
  obtain ⟨K8, eK8⟩ : ∃ q, q = kS K7 (o + 140) (.inl 13) := ⟨_, rfl⟩
  rw [← eK8]
  obtain ⟨h11, eh11⟩ : ∃ q, q = zr h10 (o + 140) := ⟨_, rfl⟩
  rw [← eh11]
  have p8_o : K8 (o) = some (.inl 12) := by rw [eK8]; exact kS_ne p7_o (by omega)
  have p8_o47 : K8 (o + 47) = some (.inr (4, 3)) := by rw [eK8]; exact kS_ne p7_o47 (by omega)
  have q8 : K8 (o + 140) = some (.inl 13) := by rw [eK8]; exact kS_eq
  refine g_dup (sz := o + 141) X (by decide +kernel) rfl ?_
  refine i_call (o := o + 140) (idx := 9) (sz := o + 141) X O Q (by decide +kernel) mi0_9 (by decide) (Nat.le_of_ble_eq_true rfl) (by decide) (by decide) (ci1 q8) ?_
  obtain ⟨K9, eK9⟩ : ∃ q, q = kI1 K8 (o + 140) := ⟨_, rfl⟩
  rw [← eK9]
  obtain ⟨h12, eh12⟩ : ∃ q, q = hI1 h11 (o + 140) := ⟨_, rfl⟩
  rw [← eh12]
  have p9_o : K9 (o) = some (.inl 12) := by rw [eK9, kI1_old (by omega)]; exact p8_o
  have p9_o47 : K9 (o + 47) = some (.inr (4, 3)) := by rw [eK9, kI1_old (by omega)]; exact p8_o47
  have p9_o140 : K9 (o + 140) = some (.inl 1) := by rw [eK9]; exact kI1_o
  obtain ⟨h13, eh13⟩ : ∃ q, sR h12 (o + 47) (2 : Int32).toNatClampNeg (some (o + 140)) = q := ⟨_, rfl⟩
  refine g_rast (ci := 1) (sz := o + 186) X (by decide +kernel) p9_o47 rfl rfl rfl p9_o140 (by decide) eh13 ?_
  obtain ⟨h14, eh14⟩ : ∃ q, q = sR h13 o 1 (some (o + 47)) := ⟨_, rfl⟩
  refine i_putF (h' := h14) (ty := .array (.object "AskedNames$Told")) (sz := o + 186) X O (by decide +kernel) fl0_16r.1 (fun C T N h => by cases h; exact ⟨rfl, by decide +kernel⟩) (fun C T N h => by cases h; rfl) rfl rfl p9_o (by rw [fl0_16r.2, eh14]; exact Wr.r (x := some (o + 47))) ?_
  refine g_aload_n (n := 0) (sz := o + 186) X (by decide +kernel) 0 rfl ?_
  refine g_iconst (n := 3) (x := (3 : Int32)) (sz := o + 186) X (by decide +kernel) (by decide) ?_
  refine i_newa (aty := .boolean) (t := 2) (n := 3) (sz := o + 186) X O (by decide +kernel) (by decide) rfl ac_2 rfl (by decide) (by decide) (by decide) (by decide) (by decide) ?_
  obtain ⟨K10, eK10⟩ : ∃ q, q = kS K9 (o + 186) (.inr (2, 3)) := ⟨_, rfl⟩
  rw [← eK10]
  obtain ⟨h15, eh15⟩ : ∃ q, q = zr h14 (o + 186) := ⟨_, rfl⟩
  rw [← eh15]
  have p10_o : K10 (o) = some (.inl 12) := by rw [eK10]; exact kS_ne p9_o (by omega)
  have q10 : K10 (o + 186) = some (.inr (2, 3)) := by rw [eK10]; exact kS_eq
  obtain ⟨h16, eh16⟩ : ∃ q, q = sR h15 o 2 (some (o + 186)) := ⟨_, rfl⟩
  refine i_putF (h' := h16) (ty := .array (.boolean)) (sz := o + 187) X O (by decide +kernel) fl0_20r.1 (fun C T N h => by cases h; exact ⟨rfl, by decide +kernel⟩) (fun C T N h => by cases h; rfl) rfl rfl p10_o (by rw [fl0_20r.2, eh16]; exact Wr.r (x := some (o + 186))) ?_
  refine g_aload_n (n := 0) (sz := o + 187) X (by decide +kernel) 0 rfl ?_
  refine i_new (idx := 24) (sz := o + 187) X O (by decide +kernel) ck17 (in_c1 209 rfl rfl) inst5 ini5 def5 raw5 (by decide) (by decide) ?_
  obtain ⟨K11, eK11⟩ : ∃ q, q = kS K10 (o + 187) (.inl 17) := ⟨_, rfl⟩
  rw [← eK11]
  obtain ⟨h17, eh17⟩ : ∃ q, q = zr h16 (o + 187) := ⟨_, rfl⟩
  rw [← eh17]
  have p11_o : K11 (o) = some (.inl 12) := by rw [eK11]; exact kS_ne p10_o (by omega)
  have q11 : K11 (o + 187) = some (.inl 17) := by rw [eK11]; exact kS_eq
  refine g_dup (sz := o + 188) X (by decide +kernel) rfl ?_
  refine i_call (o := o + 187) (idx := 26) (sz := o + 188) X O Q (by decide +kernel) mi0_26 (by decide) (Nat.le_of_ble_eq_true rfl) (by decide) (by decide) (ci5 q11) ?_
  obtain ⟨K12, eK12⟩ : ∃ q, q = kI5 K11 (o + 187) := ⟨_, rfl⟩
  rw [← eK12]
  obtain ⟨h18, eh18⟩ : ∃ q, q = hI5 h17 (o + 187) := ⟨_, rfl⟩
  rw [← eh18]
  have p12_o : K12 (o) = some (.inl 12) := by rw [eK12, kI5_old (by omega)]; exact p11_o
  have p12_o187 : K12 (o + 187) = some (.inl 5) := by rw [eK12]; exact kI5_o
  obtain ⟨h19, eh19⟩ : ∃ q, q = sR h18 o 3 (some (o + 187)) := ⟨_, rfl⟩
  refine i_putF (h' := h19) (ty := .object "AskedNames$Reader") (sz := o + 210) X O (by decide +kernel) fl0_27r.1 (fun C T N h => by cases h; exact ⟨rfl, by decide +kernel⟩) (fun C T N h => by cases h; rfl) rfl rfl p12_o (by rw [fl0_27r.2, eh19]; exact Wr.r (x := some (o + 187))) ?_
  refine g_aload_n (n := 0) (sz := o + 210) X (by decide +kernel) 0 rfl ?_
  refine i_new (idx := 31) (sz := o + 210) X O (by decide +kernel) ck22 (in_c2 30 rfl rfl) inst10 ini10 def10 raw10 (by decide) (by decide) ?_
  obtain ⟨K13, eK13⟩ : ∃ q, q = kS K12 (o + 210) (.inl 22) := ⟨_, rfl⟩
  rw [← eK13]
  obtain ⟨h20, eh20⟩ : ∃ q, q = zr h19 (o + 210) := ⟨_, rfl⟩
  rw [← eh20]
  have p13_o : K13 (o) = some (.inl 12) := by rw [eK13]; exact kS_ne p12_o (by omega)
  have q13 : K13 (o + 210) = some (.inl 22) := by rw [eK13]; exact kS_eq
  refine g_dup (sz := o + 211) X (by decide +kernel) rfl ?_
  refine i_call (o := o + 210) (idx := 33) (sz := o + 211) X O Q (by decide +kernel) mi0_33 (by decide) (Nat.le_of_ble_eq_true rfl) (by decide) (by decide) (ci10 q13) ?_
  obtain ⟨K14, eK14⟩ : ∃ q, q = kI10 K13 (o + 210) := ⟨_, rfl⟩
  rw [← eK14]
  obtain ⟨h21, eh21⟩ : ∃ q, q = hI10 h20 (o + 210) := ⟨_, rfl⟩
  rw [← eh21]
  have p14_o : K14 (o) = some (.inl 12) := by rw [eK14, kI10_old (by omega)]; exact p13_o
  have p14_o210 : K14 (o + 210) = some (.inl 10) := by rw [eK14]; exact kI10_o
  obtain ⟨h22, eh22⟩ : ∃ q, q = sR h21 o 4 (some (o + 210)) := ⟨_, rfl⟩
  refine i_putF (h' := h22) (ty := .object "AskedNames$Course") (sz := o + 1037) X O (by decide +kernel) fl0_34r.1 (fun C T N h => by cases h; exact ⟨rfl, by decide +kernel⟩) (fun C T N h => by cases h; rfl) rfl rfl p14_o (by rw [fl0_34r.2, eh22]; exact Wr.r (x := some (o + 210))) ?_
  refine g_aload_n (n := 0) (sz := o + 1037) X (by decide +kernel) 0 rfl ?_
  refine g_bipush (n := 7) (x := (7 : Int32)) (sz := o + 1037) X (by decide +kernel) (by decide) ?_
  refine i_newa (aty := .int) (t := 0) (n := 7) (sz := o + 1037) X O (by decide +kernel) (by decide) rfl ac_0 rfl (by decide) (by decide) (by decide) (by decide) (by decide) ?_
  obtain ⟨K15, eK15⟩ : ∃ q, q = kS K14 (o + 1037) (.inr (0, 7)) := ⟨_, rfl⟩
  rw [← eK15]
  obtain ⟨h23, eh23⟩ : ∃ q, q = zr h22 (o + 1037) := ⟨_, rfl⟩
  rw [← eh23]
  have p15_o : K15 (o) = some (.inl 12) := by rw [eK15]; exact kS_ne p14_o (by omega)
  have q15 : K15 (o + 1037) = some (.inr (0, 7)) := by rw [eK15]; exact kS_eq
  obtain ⟨h24, eh24⟩ : ∃ q, q = sR h23 o 5 (some (o + 1037)) := ⟨_, rfl⟩
  refine i_putF (h' := h24) (ty := .array (.int)) (sz := o + 1038) X O (by decide +kernel) fl0_38r.1 (fun C T N h => by cases h; exact ⟨rfl, by decide +kernel⟩) (fun C T N h => by cases h; rfl) rfl rfl p15_o (by rw [fl0_38r.2, eh24]; exact Wr.r (x := some (o + 1037))) ?_
  refine g_aload_n (n := 0) (sz := o + 1038) X (by decide +kernel) 0 rfl ?_
  refine g_bipush (n := 16) (x := (16 : Int32)) (sz := o + 1038) X (by decide +kernel) (by decide) ?_
  refine i_newa (aty := .int) (t := 0) (n := 16) (sz := o + 1038) X O (by decide +kernel) (by decide) rfl ac_0 rfl (by decide) (by decide) (by decide) (by decide) (by decide) ?_
  obtain ⟨K16, eK16⟩ : ∃ q, q = kS K15 (o + 1038) (.inr (0, 16)) := ⟨_, rfl⟩
  rw [← eK16]
  obtain ⟨h25, eh25⟩ : ∃ q, q = zr h24 (o + 1038) := ⟨_, rfl⟩
  rw [← eh25]
  have p16_o : K16 (o) = some (.inl 12) := by rw [eK16]; exact kS_ne p15_o (by omega)
  have q16 : K16 (o + 1038) = some (.inr (0, 16)) := by rw [eK16]; exact kS_eq
  obtain ⟨h26, eh26⟩ : ∃ q, q = sR h25 o 6 (some (o + 1038)) := ⟨_, rfl⟩
  refine i_putF (h' := h26) (ty := .array (.int)) (sz := o + 1039) X O (by decide +kernel) fl0_42r.1 (fun C T N h => by cases h; exact ⟨rfl, by decide +kernel⟩) (fun C T N h => by cases h; rfl) rfl rfl p16_o (by rw [fl0_42r.2, eh26]; exact Wr.r (x := some (o + 1038))) ?_
  refine g_aload_n (n := 0) (sz := o + 1039) X (by decide +kernel) 0 rfl ?_
  refine g_bipush (n := 40) (x := (40 : Int32)) (sz := o + 1039) X (by decide +kernel) (by decide) ?_
  refine i_newa (aty := .int) (t := 0) (n := 40) (sz := o + 1039) X O (by decide +kernel) (by decide) rfl ac_0 rfl (by decide) (by decide) (by decide) (by decide) (by decide) ?_
  obtain ⟨K17, eK17⟩ : ∃ q, q = kS K16 (o + 1039) (.inr (0, 40)) := ⟨_, rfl⟩
  rw [← eK17]
  obtain ⟨h27, eh27⟩ : ∃ q, q = zr h26 (o + 1039) := ⟨_, rfl⟩
  rw [← eh27]
  have p17_o : K17 (o) = some (.inl 12) := by rw [eK17]; exact kS_ne p16_o (by omega)
  have q17 : K17 (o + 1039) = some (.inr (0, 40)) := by rw [eK17]; exact kS_eq
  obtain ⟨h28, eh28⟩ : ∃ q, q = sR h27 o 7 (some (o + 1039)) := ⟨_, rfl⟩
  refine i_putF (h' := h28) (ty := .array (.int)) (sz := o + 1040) X O (by decide +kernel) fl0_45r.1 (fun C T N h => by cases h; exact ⟨rfl, by decide +kernel⟩) (fun C T N h => by cases h; rfl) rfl rfl p17_o (by rw [fl0_45r.2, eh28]; exact Wr.r (x := some (o + 1039))) ?_
  refine i_fin (ci := 0) (sz := o + 1040) X p17_o rfl rfl ?_ ?_
  · intro j hj
    subst eh28
    subst eh27
    subst eK17
    subst eh26
    subst eh25
    subst eK16
    subst eh24
    subst eh23
    subst eK15
    subst eh22
    subst eh21
    subst eK14
    subst eh20
    subst eK13
    subst eh19
    subst eh18
    subst eK12
    subst eh17
    subst eK11
    subst eh16
    subst eh15
    subst eK10
    subst eh14
    subst eh13
    subst eh12
    subst eK9
    subst eh11
    subst eK8
    subst eh10
    subst eh9
    subst eK7
    subst eh8
    subst eK6
    subst eh7
    subst eh6
    subst eK5
    subst eh5
    subst eK4
    subst eh4
    subst eK3
    subst eh3
    subst eh2
    subst eK2
    subst eh1
    subst eK1
    exact hall0 K h o j hj
  · subst eh28
    subst eh27
    subst eK17
    subst eh26
    subst eh25
    subst eK16
    subst eh24
    subst eh23
    subst eK15
    subst eh22
    subst eh21
    subst eK14
    subst eh20
    subst eK13
    subst eh19
    subst eh18
    subst eK12
    subst eh17
    subst eK11
    subst eh16
    subst eh15
    subst eK10
    subst eh14
    subst eh13
    subst eh12
    subst eK9
    subst eh11
    subst eK8
    subst eh10
    subst eh9
    subst eK7
    subst eh8
    subst eK6
    subst eh7
    subst eh6
    subst eK5
    subst eh5
    subst eK4
    subst eh4
    subst eK3
    subst eh3
    subst eh2
    subst eK2
    subst eh1
    subst eK1
    exact i_ret (sz := o + 1040) X O (by decide +kernel) (by decide) (by decide)
