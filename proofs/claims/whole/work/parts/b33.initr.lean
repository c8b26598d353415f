def kI5 (K : Ly) (o : Nat) : Ly := (kS (kS (kS (kI4 (kS (kI3 (kS (kI2 (kS K (o + 1) (.inl 14)) (o + 1)) (o + 14) (.inl 15)) (o + 14)) (o + 18) (.inl 16)) (o + 18)) (o + 21) (.inr (0, 4))) (o + 22) (.inr (1, 0))) o (.inl 5))
def hI5 (h : Hp) (o : Nat) : Hp := (sI (sI (sI (sI (sI (sI (sI (sI (sI (sR (zr (sR (zr (sR (hI4 (zr (sR (hI3 (zr (sR (hI2 (zr h (o + 1)) (o + 1)) o 0 (some (o + 1))) (o + 14)) (o + 14)) o 1 (some (o + 14))) (o + 18)) (o + 18)) o 2 (some (o + 18))) (o + 21)) o 3 (some (o + 21))) (o + 22)) o 4 (some (o + 22))) o 5 (0 : Int32)) o 6 (0 : Int32)) o 7 (0 : Int32)) o 8 (0 : Int32)) o 9 (0 : Int32)) o 10 (0 : Int32)) o 11 (0 : Int32)) o 12 (0 : Int32)) o 13 (-1 : Int32))
theorem kI5_o {K : Ly} {o : Nat} : kI5 K o o = some (.inl 5) := by simp [kI5, kS]
theorem kI5_old {K : Ly} {o a : Nat} (ha : a < o) : kI5 K o a = K a := by
  unfold kI5
  repeat (first | rw [show ∀ (K : Ly) (b : Nat) (kd : Kd), a ≠ b → kS K b kd a = K a from fun K b kd hb => by simp [kS, hb]] | rw [kI2_old (by omega)] | rw [kI3_old (by omega)] | rw [kI4_old (by omega)] | omega | rfl)
set_option maxHeartbeats 4000000 in
set_option maxRecDepth 100000 in
theorem st5_0 (h : Hp) (o : Nat) : (hI5 h o).2.2 o 0 = some (o + 1) := by
  unfold hI5
  simp [sI, sL, sR, zr, hI2_old, hI3_old, hI4_old]
set_option maxHeartbeats 4000000 in
set_option maxRecDepth 100000 in
theorem st5_1 (h : Hp) (o : Nat) : (hI5 h o).2.2 o 1 = some (o + 14) := by
  unfold hI5
  simp [sI, sL, sR, zr, hI2_old, hI3_old, hI4_old]
set_option maxHeartbeats 4000000 in
set_option maxRecDepth 100000 in
theorem st5_2 (h : Hp) (o : Nat) : (hI5 h o).2.2 o 2 = some (o + 18) := by
  unfold hI5
  simp [sI, sL, sR, zr, hI2_old, hI3_old, hI4_old]
set_option maxHeartbeats 4000000 in
set_option maxRecDepth 100000 in
theorem st5_3 (h : Hp) (o : Nat) : (hI5 h o).2.2 o 3 = some (o + 21) := by
  unfold hI5
  simp [sI, sL, sR, zr, hI2_old, hI3_old, hI4_old]
theorem hall5 (K : Ly) (h : Hp) (o j : Nat) (hj : j < 14) : tV (fc 17 j) (hI5 h o) o j = tV (fc 5 j) (hI5 h o) o j := by
  by_cases hs : fc 17 j = fc 5 j
  · rw [hs]
  · have hm : j = 0 ∨ j = 1 ∨ j = 2 ∨ j = 3 := (show ∀ j, j < 14 → ¬ fc 17 j = fc 5 j → (j = 0 ∨ j = 1 ∨ j = 2 ∨ j = 3) by decide +kernel) j hj hs
    rcases hm with rfl | rfl | rfl | rfl
    · show va_rf ((hI5 h o).2.2 o 0) = .ref (o + 1)
      rw [st5_0]; rfl
    · show va_rf ((hI5 h o).2.2 o 1) = .ref (o + 14)
      rw [st5_1]; rfl
    · show va_rf ((hI5 h o).2.2 o 2) = .ref (o + 18)
      rw [st5_2]; rfl
    · show va_rf ((hI5 h o).2.2 o 3) = .ref (o + 21)
      rw [st5_3]; rfl
set_option maxHeartbeats 40000000 in
set_option maxRecDepth 100000 in
theorem ci5 {sp : Sp} {K : Ly} {h : Hp} {o : Nat} (hk : K o = some (.inl 17)) : ConI sp y5_init prog_8_method_1_code 1 2 22 317 o (o + 1) K h (o + 23) (kI5 K o) (hI5 h o) := by
  refine ConI.of (by decide) rfl (by decide) (fun Γ X O Q => ?_)
  refine g_aload_n (n := 0) (sz := o + 1) X (by decide +kernel) 0 rfl ?_
  refine i_obj (idx := 3) (sz := o + 1) X (by decide +kernel) (in_c1 214 rfl rfl) ob_i ob_c (by decide) (Nat.le_of_ble_eq_true rfl) ?_
  refine g_aload_n (n := 0) (sz := o + 1) X (by decide +kernel) 0 rfl ?_
  refine i_new (idx := 9) (sz := o + 1) X O (by decide +kernel) ck14 (in_c1 215 rfl rfl) inst2 ini2 def2 raw2 (by decide) (by decide) ?_
  obtain ⟨K1, eK1⟩ : ∃ q, q = kS K (o + 1) (.inl 14) := ⟨_, rfl⟩
  rw [← eK1]
  obtain ⟨h1, eh1⟩ : ∃ q, q = zr h (o + 1) := ⟨_, rfl⟩
  rw [← eh1]
  have p1_o : K1 (o) = some (.inl 17) := by rw [eK1]; exact kS_ne hk (by omega)
  have q1 : K1 (o + 1) = some (.inl 14) := by rw [eK1]; exact kS_eq
  refine g_dup (sz := o + 2) X (by decide +kernel) rfl ?_
  refine i_call (o := o + 1) (idx := 11) (sz := o + 2) X O Q (by decide +kernel) mi5_11 (by decide) (Nat.le_of_ble_eq_true rfl) (by decide) (by decide) (ci2 q1) ?_
  obtain ⟨K2, eK2⟩ : ∃ q, q = kI2 K1 (o + 1) := ⟨_, rfl⟩
  rw [← eK2]
  obtain ⟨h2, eh2⟩ : ∃ q, q = hI2 h1 (o + 1) := ⟨_, rfl⟩
  rw [← eh2]
  have p2_o : K2 (o) = some (.inl 17) := by rw [eK2, kI2_old (by omega)]; exact p1_o
  have p2_o1 : K2 (o + 1) = some (.inl 2) := by rw [eK2]; exact kI2_o
  obtain ⟨h3, eh3⟩ : ∃ q, q = sR h2 o 0 (some (o + 1)) := ⟨_, rfl⟩
  refine i_putF (h' := h3) (ty := .object "AskedNames$Net") (sz := o + 14) X O (by decide +kernel) fl5_12r.1 (fun C T N h => by cases h; exact ⟨rfl, by decide +kernel⟩) (fun C T N h => by cases h; rfl) rfl rfl p2_o (by rw [fl5_12r.2, eh3]; exact Wr.r (x := some (o + 1))) ?_
  refine g_aload_n (n := 0) (sz := o + 14) X (by decide +kernel) 0 rfl ?_
  refine i_new (idx := 18) (sz := o + 14) X O (by decide +kernel) ck15 (in_c1 217 rfl rfl) inst3 ini3 def3 raw3 (by decide) (by decide) ?_
  obtain ⟨K3, eK3⟩ : ∃ q, q = kS K2 (o + 14) (.inl 15) := ⟨_, rfl⟩
  rw [← eK3]
  obtain ⟨h4, eh4⟩ : ∃ q, q = zr h3 (o + 14) := ⟨_, rfl⟩
  rw [← eh4]
  have p3_o : K3 (o) = some (.inl 17) := by rw [eK3]; exact kS_ne p2_o (by omega)
  have q3 : K3 (o + 14) = some (.inl 15) := by rw [eK3]; exact kS_eq
  refine g_dup (sz := o + 15) X (by decide +kernel) rfl ?_
  refine i_call (o := o + 14) (idx := 20) (sz := o + 15) X O Q (by decide +kernel) mi5_20 (by decide) (Nat.le_of_ble_eq_true rfl) (by decide) (by decide) (ci3 q3) ?_
  obtain ⟨K4, eK4⟩ : ∃ q, q = kI3 K3 (o + 14) := ⟨_, rfl⟩
  rw [← eK4]
  obtain ⟨h5, eh5⟩ : ∃ q, q = hI3 h4 (o + 14) := ⟨_, rfl⟩
  rw [← eh5]
  have p4_o : K4 (o) = some (.inl 17) := by rw [eK4, kI3_old (by omega)]; exact p3_o
  have p4_o14 : K4 (o + 14) = some (.inl 3) := by rw [eK4]; exact kI3_o
  obtain ⟨h6, eh6⟩ : ∃ q, q = sR h5 o 1 (some (o + 14)) := ⟨_, rfl⟩
  refine i_putF (h' := h6) (ty := .object "AskedNames$Run") (sz := o + 18) X O (by decide +kernel) fl5_21r.1 (fun C T N h => by cases h; exact ⟨rfl, by decide +kernel⟩) (fun C T N h => by cases h; rfl) rfl rfl p4_o (by rw [fl5_21r.2, eh6]; exact Wr.r (x := some (o + 14))) ?_
  refine g_aload_n (n := 0) (sz := o + 18) X (by decide +kernel) 0 rfl ?_
  refine i_new (idx := 25) (sz := o + 18) X O (by decide +kernel) ck16 (in_c1 219 rfl rfl) inst4 ini4 def4 raw4 (by decide) (by decide) ?_
  obtain ⟨K5, eK5⟩ : ∃ q, q = kS K4 (o + 18) (.inl 16) := ⟨_, rfl⟩
  rw [← eK5]
  obtain ⟨h7, eh7⟩ : ∃ q, q = zr h6 (o + 18) := ⟨_, rfl⟩
  rw [← eh7]
  have p5_o : K5 (o) = some (.inl 17) := by rw [eK5]; exact kS_ne p4_o (by omega)
  have q5 : K5 (o + 18) = some (.inl 16) := by rw [eK5]; exact kS_eq
  refine g_dup (sz := o + 19) X (by decide +kernel) rfl ?_
  refine i_call (o := o + 18) (idx := 27) (sz := o + 19) X O Q (by decide +kernel) mi5_27 (by decide) (Nat.le_of_ble_eq_true rfl) (by decide) (by decide) (ci4 q5) ?_
  obtain ⟨K6, eK6⟩ : ∃ q, q = kI4 K5 (o + 18) := ⟨_, rfl⟩
  rw [← eK6]
  obtain ⟨h8, eh8⟩ : ∃ q, q = hI4 h7 (o + 18) := ⟨_, rfl⟩
  rw [← eh8]
  have p6_o : K6 (o) = some (.inl 17) := by rw [eK6, kI4_old (by omega)]; exact p5_o
  have p6_o18 : K6 (o + 18) = some (.inl 4) := by rw [eK6]; exact kI4_o
  obtain ⟨h9, eh9⟩ : ∃ q, q = sR h8 o 2 (some (o + 18)) := ⟨_, rfl⟩
  refine i_putF (h' := h9) (ty := .object "AskedNames$Log") (sz := o + 21) X O (by decide +kernel) fl5_28r.1 (fun C T N h => by cases h; exact ⟨rfl, by decide +kernel⟩) (fun C T N h => by cases h; rfl) rfl rfl p6_o (by rw [fl5_28r.2, eh9]; exact Wr.r (x := some (o + 18))) ?_
  refine g_aload_n (n := 0) (sz := o + 21) X (by decide +kernel) 0 rfl ?_
  refine g_iconst (n := 4) (x := (4 : Int32)) (sz := o + 21) X (by decide +kernel) (by decide) ?_
  refine i_newa (aty := .int) (t := 0) (n := 4) (sz := o + 21) X O (by decide +kernel) (by decide) rfl ac_0 rfl (by decide) (by decide) (by decide) (by decide) (by decide) ?_
  obtain ⟨K7, eK7⟩ : ∃ q, q = kS K6 (o + 21) (.inr (0, 4)) := ⟨_, rfl⟩
  rw [← eK7]
  obtain ⟨h10, eh10⟩ : ∃ q, q = zr h9 (o + 21) := ⟨_, rfl⟩
  rw [← eh10]
  have p7_o : K7 (o) = some (.inl 17) := by rw [eK7]; exact kS_ne p6_o (by omega)
  have q7 : K7 (o + 21) = some (.inr (0, 4)) := by rw [eK7]; exact kS_eq
  obtain ⟨h11, eh11⟩ : ∃ q, q = sR h10 o 3 (some (o + 21)) := ⟨_, rfl⟩
  refine i_putF (h' := h11) (ty := .array (.int)) (sz := o + 22) X O (by decide +kernel) fl5_32r.1 (fun C T N h => by cases h; exact ⟨rfl, by decide +kernel⟩) (fun C T N h => by cases h; rfl) rfl rfl p7_o (by rw [fl5_32r.2, eh11]; exact Wr.r (x := some (o + 21))) ?_
  refine g_aload_n (n := 0) (sz := o + 22) X (by decide +kernel) 0 rfl ?_
  refine g_iconst (n := 0) (x := (0 : Int32)) (sz := o + 22) X (by decide +kernel) (by decide) ?_
  refine i_newa (aty := .byte) (t := 1) (n := 0) (sz := o + 22) X O (by decide +kernel) (by decide) rfl ac_1 rfl (by decide) (by decide) (by decide) (by decide) (by decide) ?_
  obtain ⟨K8, eK8⟩ : ∃ q, q = kS K7 (o + 22) (.inr (1, 0)) := ⟨_, rfl⟩
  rw [← eK8]
  obtain ⟨h12, eh12⟩ : ∃ q, q = zr h11 (o + 22) := ⟨_, rfl⟩
  rw [← eh12]
  have p8_o : K8 (o) = some (.inl 17) := by rw [eK8]; exact kS_ne p7_o (by omega)
  have q8 : K8 (o + 22) = some (.inr (1, 0)) := by rw [eK8]; exact kS_eq
  obtain ⟨h13, eh13⟩ : ∃ q, q = sR h12 o 4 (some (o + 22)) := ⟨_, rfl⟩
  refine g_putf (h' := h13) (ty := .array (.byte)) (sz := o + 23) X (by decide +kernel) fl5_36r.1 (fun C T N h => by cases h; exact ⟨rfl, by decide +kernel⟩) rfl rfl p8_o (by rw [fl5_36r.2, eh13]; exact Wr.r (x := some (o + 22))) ?_
  refine g_aload_n (n := 0) (sz := o + 23) X (by decide +kernel) 0 rfl ?_
  refine g_iconst (n := 0) (x := (0 : Int32)) (sz := o + 23) X (by decide +kernel) (by decide) ?_
  obtain ⟨h14, eh14⟩ : ∃ q, q = sI h13 o 5 (0 : Int32) := ⟨_, rfl⟩
  refine g_putf (h' := h14) (ty := .int) (sz := o + 23) X (by decide +kernel) fl5_40r.1 (fun C T N h => by cases h; exact ⟨rfl, by decide +kernel⟩) rfl rfl p8_o (by rw [fl5_40r.2, eh14]; exact Wr.i) ?_
  refine g_aload_n (n := 0) (sz := o + 23) X (by decide +kernel) 0 rfl ?_
  refine g_iconst (n := 0) (x := (0 : Int32)) (sz := o + 23) X (by decide +kernel) (by decide) ?_
  obtain ⟨h15, eh15⟩ : ∃ q, q = sI h14 o 6 (0 : Int32) := ⟨_, rfl⟩
  refine g_putf (h' := h15) (ty := .int) (sz := o + 23) X (by decide +kernel) fl5_44r.1 (fun C T N h => by cases h; exact ⟨rfl, by decide +kernel⟩) rfl rfl p8_o (by rw [fl5_44r.2, eh15]; exact Wr.i) ?_
  refine g_aload_n (n := 0) (sz := o + 23) X (by decide +kernel) 0 rfl ?_
  refine g_iconst (n := 0) (x := (0 : Int32)) (sz := o + 23) X (by decide +kernel) (by decide) ?_
  obtain ⟨h16, eh16⟩ : ∃ q, q = sI h15 o 7 (0 : Int32) := ⟨_, rfl⟩
  refine g_putf (h' := h16) (ty := .int) (sz := o + 23) X (by decide +kernel) fl5_47r.1 (fun C T N h => by cases h; exact ⟨rfl, by decide +kernel⟩) rfl rfl p8_o (by rw [fl5_47r.2, eh16]; exact Wr.i) ?_
  refine g_aload_n (n := 0) (sz := o + 23) X (by decide +kernel) 0 rfl ?_
  refine g_iconst (n := 0) (x := (0 : Int32)) (sz := o + 23) X (by decide +kernel) (by decide) ?_
  obtain ⟨h17, eh17⟩ : ∃ q, q = sI h16 o 8 (0 : Int32) := ⟨_, rfl⟩
  refine g_putf (h' := h17) (ty := .int) (sz := o + 23) X (by decide +kernel) fl5_50r.1 (fun C T N h => by cases h; exact ⟨rfl, by decide +kernel⟩) rfl rfl p8_o (by rw [fl5_50r.2, eh17]; exact Wr.i) ?_
  refine g_aload_n (n := 0) (sz := o + 23) X (by decide +kernel) 0 rfl ?_
  refine g_iconst (n := 0) (x := (0 : Int32)) (sz := o + 23) X (by decide +kernel) (by decide) ?_
  obtain ⟨h18, eh18⟩ : ∃ q, q = sI h17 o 9 (0 : Int32) := ⟨_, rfl⟩
  refine g_putf (h' := h18) (ty := .int) (sz := o + 23) X (by decide +kernel) fl5_53r.1 (fun C T N h => by cases h; exact ⟨rfl, by decide +kernel⟩) rfl rfl p8_o (by rw [fl5_53r.2, eh18]; exact Wr.i) ?_
  refine g_aload_n (n := 0) (sz := o + 23) X (by decide +kernel) 0 rfl ?_
  refine g_iconst (n := 0) (x := (0 : Int32)) (sz := o + 23) X (by decide +kernel) (by decide) ?_
  obtain ⟨h19, eh19⟩ : ∃ q, q = sI h18 o 10 (0 : Int32) := ⟨_, rfl⟩
  refine g_putf (h' := h19) (ty := .int) (sz := o + 23) X (by decide +kernel) fl5_56r.1 (fun C T N h => by cases h; exact ⟨rfl, by decide +kernel⟩) rfl rfl p8_o (by rw [fl5_56r.2, eh19]; exact Wr.i) ?_
  refine g_aload_n (n := 0) (sz := o + 23) X (by decide +kernel) 0 rfl ?_
  refine g_iconst (n := 0) (x := (0 : Int32)) (sz := o + 23) X (by decide +kernel) (by decide) ?_
  obtain ⟨h20, eh20⟩ : ∃ q, q = sI h19 o 11 (0 : Int32) := ⟨_, rfl⟩
  refine g_putf (h' := h20) (ty := .int) (sz := o + 23) X (by decide +kernel) fl5_59r.1 (fun C T N h => by cases h; exact ⟨rfl, by decide +kernel⟩) rfl rfl p8_o (by rw [fl5_59r.2, eh20]; exact Wr.i) ?_
  refine g_aload_n (n := 0) (sz := o + 23) X (by decide +kernel) 0 rfl ?_
  refine g_iconst (n := 0) (x := (0 : Int32)) (sz := o + 23) X (by decide +kernel) (by decide) ?_
  obtain ⟨h21, eh21⟩ : ∃ q, q = sI h20 o 12 (0 : Int32) := ⟨_, rfl⟩
  refine g_putf (h' := h21) (ty := .int) (sz := o + 23) X (by decide +kernel) fl5_62r.1 (fun C T N h => by cases h; exact ⟨rfl, by decide +kernel⟩) rfl rfl p8_o (by rw [fl5_62r.2, eh21]; exact Wr.i) ?_
  refine g_aload_n (n := 0) (sz := o + 23) X (by decide +kernel) 0 rfl ?_
  refine g_iconst (n := -1) (x := (-1 : Int32)) (sz := o + 23) X (by decide +kernel) (by decide) ?_
  obtain ⟨h22, eh22⟩ : ∃ q, q = sI h21 o 13 (-1 : Int32) := ⟨_, rfl⟩
  refine g_putf (h' := h22) (ty := .int) (sz := o + 23) X (by decide +kernel) fl5_65r.1 (fun C T N h => by cases h; exact ⟨rfl, by decide +kernel⟩) rfl rfl p8_o (by rw [fl5_65r.2, eh22]; exact Wr.i) ?_
  refine i_fin (ci := 5) (sz := o + 23) X p8_o rfl rfl ?_ ?_
  · intro j hj
    subst eh22
    subst eh21
    subst eh20
    subst eh19
    subst eh18
    subst eh17
    subst eh16
    subst eh15
    subst eh14
    subst eh13
    subst eh12
    subst eK8
    subst eh11
    subst eh10
    subst eK7
    subst eh9
    subst eh8
    subst eK6
    subst eh7
    subst eK5
    subst eh6
    subst eh5
    subst eK4
    subst eh4
    subst eK3
    subst eh3
    subst eh2
    subst eK2
    subst eh1
    subst eK1
    exact hall5 K h o j hj
  · subst eh22
    subst eh21
    subst eh20
    subst eh19
    subst eh18
    subst eh17
    subst eh16
    subst eh15
    subst eh14
    subst eh13
    subst eh12
    subst eK8
    subst eh11
    subst eh10
    subst eK7
    subst eh9
    subst eh8
    subst eK6
    subst eh7
    subst eK5
    subst eh6
    subst eh5
    subst eK4
    subst eh4
    subst eK3
    subst eh3
    subst eh2
    subst eK2
    subst eh1
    subst eK1
    exact i_ret (sz := o + 23) X O (by decide +kernel) (by decide) (by decide)
theorem hI5_old {h : Hp} {o a : Nat} (ha : a < o) : (∀ k, (hI5 h o).1 a k = h.1 a k) ∧ (∀ k, (hI5 h o).2.1 a k = h.2.1 a k) ∧ ∀ k, (hI5 h o).2.2 a k = h.2.2 a k := by
  unfold hI5
  repeat (first | exact ⟨fun _ => rfl, fun _ => rfl, fun _ => rfl⟩ | refine o_zr (by omega) ?_ | refine o_sI (by omega) ?_ | refine o_sL (by omega) ?_ | refine o_sR (by omega) ?_ | refine o_tr (hI2_old (by omega)) ?_ | refine o_tr (hI3_old (by omega)) ?_ | refine o_tr (hI4_old (by omega)) ?_)
