def kA10 (K : Ly) (o : Nat) : Ly := (kS (kS (kS (kS (kS (kI7 (kS (kI7 (kS (kS (kS (kI2 (kS K (o + 1) (.inl 14)) (o + 1)) (o + 14) (.inr (8, 360))) (o + 15) (.inr (9, 360))) (o + 16) (.inl 19)) (o + 16)) (o + 17) (.inl 19)) (o + 17)) (o + 18) (.inr (0, 36))) (o + 19) (.inr (3, 6))) (o + 20) (.inr (10, 6))) (o + 21) (.inr (11, 60))) (o + 22) (.inr (0, 7)))
def hA10 (h : Hp) (o : Nat) : Hp := (sR (zr (sR (zr (sR (zr (sR (zr (sR (zr (sR (hI7 (zr (sR (hI7 (zr (sI (sR (zr (sI (sR (zr (sI (sI (sI (sI (sR (hI2 (zr h (o + 1)) (o + 1)) o 0 (some (o + 1))) o 1 (-1 : Int32)) o 2 (0 : Int32)) o 3 (0 : Int32)) o 4 (0 : Int32)) (o + 14)) o 5 (some (o + 14))) o 6 (0 : Int32)) (o + 15)) o 7 (some (o + 15))) o 8 (0 : Int32)) (o + 16)) (o + 16)) o 9 (some (o + 16))) (o + 17)) (o + 17)) o 10 (some (o + 17))) (o + 18)) o 11 (some (o + 18))) (o + 19)) o 12 (some (o + 19))) (o + 20)) o 13 (some (o + 20))) (o + 21)) o 14 (some (o + 21))) (o + 22)) o 15 (some (o + 22)))
set_option maxHeartbeats 4000000 in
set_option maxRecDepth 100000 in
theorem ic_a {Γ : CT} {sp : Sp} {zf : Nat} {Kf : Ly} {hf : Hp} (X : Ok Γ sp prog_2_method_1_code y10_init.cls 2 none 2 none zf Kf hf) (O : Oi Γ 826 10609) (Q : AOg Γ) {o : Nat} {K : Ly} {h : Hp} (hk : K o = some (.inl 22)) (kk : Go Γ (22, 1033) 129 [(0, .ref o)] [] (o + 23) (kA10 K o) (hA10 h o)) : Go Γ (0, 0) 0 [(0, .ref o)] [] (o + 1) K h := by
  refine g_aload_n (n := 0) (sz := o + 1) X (by decide +kernel) 0 rfl ?_
  refine i_obj (idx := 3) (sz := o + 1) X (by decide +kernel) (in_c2 35 rfl rfl) ob_i ob_c (by decide) (Nat.le_of_ble_eq_true rfl) ?_
  refine g_aload_n (n := 0) (sz := o + 1) X (by decide +kernel) 0 rfl ?_
  refine i_new (idx := 9) (sz := o + 1) X O (by decide +kernel) ck14 (in_c2 36 rfl rfl) inst2 ini2 def2 raw2 (by decide) (by decide) ?_
  obtain ⟨K1, eK1⟩ : ∃ q, q = kS K (o + 1) (.inl 14) := ⟨_, rfl⟩
  rw [← eK1]
  obtain ⟨h1, eh1⟩ : ∃ q, q = zr h (o + 1) := ⟨_, rfl⟩
  rw [← eh1]
  have p1_o : K1 (o) = some (.inl 22) := by rw [eK1]; exact kS_ne hk (by omega)
  have q1 : K1 (o + 1) = some (.inl 14) := by rw [eK1]; exact kS_eq
  refine g_dup (sz := o + 2) X (by decide +kernel) rfl ?_
  refine i_call (o := o + 1) (idx := 11) (sz := o + 2) X O Q (by decide +kernel) mi10_11 (by decide) (Nat.le_of_ble_eq_true rfl) (by decide) (by decide) (ci2 q1) ?_
  obtain ⟨K2, eK2⟩ : ∃ q, q = kI2 K1 (o + 1) := ⟨_, rfl⟩
  rw [← eK2]
  obtain ⟨h2, eh2⟩ : ∃ q, q = hI2 h1 (o + 1) := ⟨_, rfl⟩
  rw [← eh2]
  have p2_o : K2 (o) = some (.inl 22) := by rw [eK2, kI2_old (by omega)]; exact p1_o
  have p2_o1 : K2 (o + 1) = some (.inl 2) := by rw [eK2]; exact kI2_o
  obtain ⟨h3, eh3⟩ : ∃ q, q = sR h2 o 0 (some (o + 1)) := ⟨_, rfl⟩
  refine g_putf (h' := h3) (ty := .object "AskedNames$Net") (sz := o + 14) X (by decide +kernel) fl10_12r.1 (fun C T N h => by cases h; exact ⟨rfl, by decide +kernel⟩) rfl rfl p2_o (by rw [fl10_12r.2, eh3]; exact Wr.r (x := some (o + 1))) ?_
  refine g_aload_n (n := 0) (sz := o + 14) X (by decide +kernel) 0 rfl ?_
  refine g_iconst (n := -1) (x := (-1 : Int32)) (sz := o + 14) X (by decide +kernel) (by decide) ?_
  obtain ⟨h4, eh4⟩ : ∃ q, q = sI h3 o 1 (-1 : Int32) := ⟨_, rfl⟩
  refine g_putf (h' := h4) (ty := .int) (sz := o + 14) X (by decide +kernel) fl10_18r.1 (fun C T N h => by cases h; exact ⟨rfl, by decide +kernel⟩) rfl rfl p2_o (by rw [fl10_18r.2, eh4]; exact Wr.i) ?_
  refine g_aload_n (n := 0) (sz := o + 14) X (by decide +kernel) 0 rfl ?_
  refine g_iconst (n := 0) (x := (0 : Int32)) (sz := o + 14) X (by decide +kernel) (by decide) ?_
  obtain ⟨h5, eh5⟩ : ∃ q, q = sI h4 o 2 (0 : Int32) := ⟨_, rfl⟩
  refine g_putf (h' := h5) (ty := .int) (sz := o + 14) X (by decide +kernel) fl10_22r.1 (fun C T N h => by cases h; exact ⟨rfl, by decide +kernel⟩) rfl rfl p2_o (by rw [fl10_22r.2, eh5]; exact Wr.i) ?_
  refine g_aload_n (n := 0) (sz := o + 14) X (by decide +kernel) 0 rfl ?_
  refine g_iconst (n := 0) (x := (0 : Int32)) (sz := o + 14) X (by decide +kernel) (by decide) ?_
  obtain ⟨h6, eh6⟩ : ∃ q, q = sI h5 o 3 (0 : Int32) := ⟨_, rfl⟩
  refine g_putf (h' := h6) (ty := .int) (sz := o + 14) X (by decide +kernel) fl10_25r.1 (fun C T N h => by cases h; exact ⟨rfl, by decide +kernel⟩) rfl rfl p2_o (by rw [fl10_25r.2, eh6]; exact Wr.i) ?_
  refine g_aload_n (n := 0) (sz := o + 14) X (by decide +kernel) 0 rfl ?_
  refine g_iconst (n := 0) (x := (0 : Int32)) (sz := o + 14) X (by decide +kernel) (by decide) ?_
  obtain ⟨h7, eh7⟩ : ∃ q, q = sI h6 o 4 (0 : Int32) := ⟨_, rfl⟩
  refine g_putf (h' := h7) (ty := .int) (sz := o + 14) X (by decide +kernel) fl10_28r.1 (fun C T N h => by cases h; exact ⟨rfl, by decide +kernel⟩) rfl rfl p2_o (by rw [fl10_28r.2, eh7]; exact Wr.i) ?_
  refine g_aload_n (n := 0) (sz := o + 14) X (by decide +kernel) 0 rfl ?_
  refine g_sipush (n := 360) (x := (360 : Int32)) (sz := o + 14) X (by decide +kernel) (by decide) ?_
  refine i_anew (t := 8) (n := 360) (idx := 31) (sz := o + 14) X O Q (by decide +kernel) rfl rfl (in_c2 38 rfl rfl) (by decide) (by decide) (by decide) (by decide) (by decide) ?_
  obtain ⟨K3, eK3⟩ : ∃ q, q = kS K2 (o + 14) (.inr (8, 360)) := ⟨_, rfl⟩
  rw [← eK3]
  obtain ⟨h8, eh8⟩ : ∃ q, q = zr h7 (o + 14) := ⟨_, rfl⟩
  rw [← eh8]
  have p3_o : K3 (o) = some (.inl 22) := by rw [eK3]; exact kS_ne p2_o (by omega)
  have q3 : K3 (o + 14) = some (.inr (8, 360)) := by rw [eK3]; exact kS_eq
  obtain ⟨h9, eh9⟩ : ∃ q, q = sR h8 o 5 (some (o + 14)) := ⟨_, rfl⟩
  refine i_putF (h' := h9) (ty := .array (.object "AskedNames$Entry")) (sz := o + 15) X O (by decide +kernel) fl10_33r.1 (fun C T N h => by cases h; exact ⟨rfl, by decide +kernel⟩) (fun C T N h => by cases h; rfl) rfl rfl p3_o (by rw [fl10_33r.2, eh9]; exact Wr.r (x := some (o + 14))) ?_
  refine g_aload_n (n := 0) (sz := o + 15) X (by decide +kernel) 0 rfl ?_
  refine g_iconst (n := 0) (x := (0 : Int32)) (sz := o + 15) X (by decide +kernel) (by decide) ?_
  obtain ⟨h10, eh10⟩ : ∃ q, q = sI h9 o 6 (0 : Int32) := ⟨_, rfl⟩
  refine g_putf (h' := h10) (ty := .int) (sz := o + 15) X (by decide +kernel) fl10_37r.1 (fun C T N h => by cases h; exact ⟨rfl, by decide +kernel⟩) rfl rfl p3_o (by rw [fl10_37r.2, eh10]; exact Wr.i) ?_
  refine g_aload_n (n := 0) (sz := o + 15) X (by decide +kernel) 0 rfl ?_
  refine g_sipush (n := 360) (x := (360 : Int32)) (sz := o + 15) X (by decide +kernel) (by decide) ?_
  refine i_anew (t := 9) (n := 360) (idx := 40) (sz := o + 15) X O Q (by decide +kernel) rfl rfl (in_c2 40 rfl rfl) (by decide) (by decide) (by decide) (by decide) (by decide) ?_
  obtain ⟨K4, eK4⟩ : ∃ q, q = kS K3 (o + 15) (.inr (9, 360)) := ⟨_, rfl⟩
  rw [← eK4]
  obtain ⟨h11, eh11⟩ : ∃ q, q = zr h10 (o + 15) := ⟨_, rfl⟩
  rw [← eh11]
  have p4_o : K4 (o) = some (.inl 22) := by rw [eK4]; exact kS_ne p3_o (by omega)
  have q4 : K4 (o + 15) = some (.inr (9, 360)) := by rw [eK4]; exact kS_eq
  obtain ⟨h12, eh12⟩ : ∃ q, q = sR h11 o 7 (some (o + 15)) := ⟨_, rfl⟩
  refine i_putF (h' := h12) (ty := .array (.object "AskedNames$Message")) (sz := o + 16) X O (by decide +kernel) fl10_42r.1 (fun C T N h => by cases h; exact ⟨rfl, by decide +kernel⟩) (fun C T N h => by cases h; rfl) rfl rfl p4_o (by rw [fl10_42r.2, eh12]; exact Wr.r (x := some (o + 15))) ?_
  refine g_aload_n (n := 0) (sz := o + 16) X (by decide +kernel) 0 rfl ?_
  refine g_iconst (n := 0) (x := (0 : Int32)) (sz := o + 16) X (by decide +kernel) (by decide) ?_
  obtain ⟨h13, eh13⟩ : ∃ q, q = sI h12 o 8 (0 : Int32) := ⟨_, rfl⟩
  refine g_putf (h' := h13) (ty := .int) (sz := o + 16) X (by decide +kernel) fl10_46r.1 (fun C T N h => by cases h; exact ⟨rfl, by decide +kernel⟩) rfl rfl p4_o (by rw [fl10_46r.2, eh13]; exact Wr.i) ?_
  refine g_aload_n (n := 0) (sz := o + 16) X (by decide +kernel) 0 rfl ?_
  refine i_new (idx := 40) (sz := o + 16) X O (by decide +kernel) ck19 (in_c2 40 rfl rfl) inst7 ini7 def7 raw7 (by decide) (by decide) ?_
  obtain ⟨K5, eK5⟩ : ∃ q, q = kS K4 (o + 16) (.inl 19) := ⟨_, rfl⟩
  rw [← eK5]
  obtain ⟨h14, eh14⟩ : ∃ q, q = zr h13 (o + 16) := ⟨_, rfl⟩
  rw [← eh14]
  have p5_o : K5 (o) = some (.inl 22) := by rw [eK5]; exact kS_ne p4_o (by omega)
  have q5 : K5 (o + 16) = some (.inl 19) := by rw [eK5]; exact kS_eq
  refine g_dup (sz := o + 17) X (by decide +kernel) rfl ?_
  refine i_call (o := o + 16) (idx := 49) (sz := o + 17) X O Q (by decide +kernel) mi10_49 (by decide) (Nat.le_of_ble_eq_true rfl) (by decide) (by decide) (ci7 q5) ?_
  obtain ⟨K6, eK6⟩ : ∃ q, q = kI7 K5 (o + 16) := ⟨_, rfl⟩
  rw [← eK6]
  obtain ⟨h15, eh15⟩ : ∃ q, q = hI7 h14 (o + 16) := ⟨_, rfl⟩
  rw [← eh15]
  have p6_o : K6 (o) = some (.inl 22) := by rw [eK6, kI7_old (by omega)]; exact p5_o
  have p6_o16 : K6 (o + 16) = some (.inl 7) := by rw [eK6]; exact kI7_o
  obtain ⟨h16, eh16⟩ : ∃ q, q = sR h15 o 9 (some (o + 16)) := ⟨_, rfl⟩
  refine i_putF (h' := h16) (ty := .object "AskedNames$Message") (sz := o + 17) X O (by decide +kernel) fl10_50r.1 (fun C T N h => by cases h; exact ⟨rfl, by decide +kernel⟩) (fun C T N h => by cases h; rfl) rfl rfl p6_o (by rw [fl10_50r.2, eh16]; exact Wr.r (x := some (o + 16))) ?_
  refine g_aload_n (n := 0) (sz := o + 17) X (by decide +kernel) 0 rfl ?_
  refine i_new (idx := 40) (sz := o + 17) X O (by decide +kernel) ck19 (in_c2 40 rfl rfl) inst7 ini7 def7 raw7 (by decide) (by decide) ?_
  obtain ⟨K7, eK7⟩ : ∃ q, q = kS K6 (o + 17) (.inl 19) := ⟨_, rfl⟩
  rw [← eK7]
  obtain ⟨h17, eh17⟩ : ∃ q, q = zr h16 (o + 17) := ⟨_, rfl⟩
  rw [← eh17]
  have p7_o : K7 (o) = some (.inl 22) := by rw [eK7]; exact kS_ne p6_o (by omega)
  have q7 : K7 (o + 17) = some (.inl 19) := by rw [eK7]; exact kS_eq
  refine g_dup (sz := o + 18) X (by decide +kernel) rfl ?_
  refine i_call (o := o + 17) (idx := 49) (sz := o + 18) X O Q (by decide +kernel) mi10_49 (by decide) (Nat.le_of_ble_eq_true rfl) (by decide) (by decide) (ci7 q7) ?_
  obtain ⟨K8, eK8⟩ : ∃ q, q = kI7 K7 (o + 17) := ⟨_, rfl⟩
  rw [← eK8]
  obtain ⟨h18, eh18⟩ : ∃ q, q = hI7 h17 (o + 17) := ⟨_, rfl⟩
  rw [← eh18]
  have p8_o : K8 (o) = some (.inl 22) := by rw [eK8, kI7_old (by omega)]; exact p7_o
  have p8_o17 : K8 (o + 17) = some (.inl 7) := by rw [eK8]; exact kI7_o
  obtain ⟨h19, eh19⟩ : ∃ q, q = sR h18 o 10 (some (o + 17)) := ⟨_, rfl⟩
  refine i_putF (h' := h19) (ty := .object "AskedNames$Message") (sz := o + 18) X O (by decide +kernel) fl10_54r.1 (fun C T N h => by cases h; exact ⟨rfl, by decide +kernel⟩) (fun C T N h => by cases h; rfl) rfl rfl p8_o (by rw [fl10_54r.2, eh19]; exact Wr.r (x := some (o + 17))) ?_
  refine g_aload_n (n := 0) (sz := o + 18) X (by decide +kernel) 0 rfl ?_
  refine g_bipush (n := 36) (x := (36 : Int32)) (sz := o + 18) X (by decide +kernel) (by decide) ?_
  refine i_newa (aty := .int) (t := 0) (n := 36) (sz := o + 18) X O (by decide +kernel) (by decide) rfl ac_0 rfl (by decide) (by decide) (by decide) (by decide) (by decide) ?_
  obtain ⟨K9, eK9⟩ : ∃ q, q = kS K8 (o + 18) (.inr (0, 36)) := ⟨_, rfl⟩
  rw [← eK9]
  obtain ⟨h20, eh20⟩ : ∃ q, q = zr h19 (o + 18) := ⟨_, rfl⟩
  rw [← eh20]
  have p9_o : K9 (o) = some (.inl 22) := by rw [eK9]; exact kS_ne p8_o (by omega)
  have q9 : K9 (o + 18) = some (.inr (0, 36)) := by rw [eK9]; exact kS_eq
  obtain ⟨h21, eh21⟩ : ∃ q, q = sR h20 o 11 (some (o + 18)) := ⟨_, rfl⟩
  refine i_putF (h' := h21) (ty := .array (.int)) (sz := o + 19) X O (by decide +kernel) fl10_57r.1 (fun C T N h => by cases h; exact ⟨rfl, by decide +kernel⟩) (fun C T N h => by cases h; rfl) rfl rfl p9_o (by rw [fl10_57r.2, eh21]; exact Wr.r (x := some (o + 18))) ?_
  refine g_aload_n (n := 0) (sz := o + 19) X (by decide +kernel) 0 rfl ?_
  refine g_bipush (n := 6) (x := (6 : Int32)) (sz := o + 19) X (by decide +kernel) (by decide) ?_
  refine i_newa (aty := .long) (t := 3) (n := 6) (sz := o + 19) X O (by decide +kernel) (by decide) rfl ac_3 rfl (by decide) (by decide) (by decide) (by decide) (by decide) ?_
  obtain ⟨K10, eK10⟩ : ∃ q, q = kS K9 (o + 19) (.inr (3, 6)) := ⟨_, rfl⟩
  rw [← eK10]
  obtain ⟨h22, eh22⟩ : ∃ q, q = zr h21 (o + 19) := ⟨_, rfl⟩
  rw [← eh22]
  have p10_o : K10 (o) = some (.inl 22) := by rw [eK10]; exact kS_ne p9_o (by omega)
  have q10 : K10 (o + 19) = some (.inr (3, 6)) := by rw [eK10]; exact kS_eq
  obtain ⟨h23, eh23⟩ : ∃ q, q = sR h22 o 12 (some (o + 19)) := ⟨_, rfl⟩
  refine i_putF (h' := h23) (ty := .array (.long)) (sz := o + 20) X O (by decide +kernel) fl10_61r.1 (fun C T N h => by cases h; exact ⟨rfl, by decide +kernel⟩) (fun C T N h => by cases h; rfl) rfl rfl p10_o (by rw [fl10_61r.2, eh23]; exact Wr.r (x := some (o + 19))) ?_
  refine g_aload_n (n := 0) (sz := o + 20) X (by decide +kernel) 0 rfl ?_
  refine g_bipush (n := 6) (x := (6 : Int32)) (sz := o + 20) X (by decide +kernel) (by decide) ?_
  refine i_anew (t := 10) (n := 6) (idx := 65) (sz := o + 20) X O Q (by decide +kernel) rfl rfl (in_c2 107 rfl rfl) (by decide) (by decide) (by decide) (by decide) (by decide) ?_
  obtain ⟨K11, eK11⟩ : ∃ q, q = kS K10 (o + 20) (.inr (10, 6)) := ⟨_, rfl⟩
  rw [← eK11]
  obtain ⟨h24, eh24⟩ : ∃ q, q = zr h23 (o + 20) := ⟨_, rfl⟩
  rw [← eh24]
  have p11_o : K11 (o) = some (.inl 22) := by rw [eK11]; exact kS_ne p10_o (by omega)
  have q11 : K11 (o + 20) = some (.inr (10, 6)) := by rw [eK11]; exact kS_eq
  obtain ⟨h25, eh25⟩ : ∃ q, q = sR h24 o 13 (some (o + 20)) := ⟨_, rfl⟩
  refine i_putF (h' := h25) (ty := .array (.object "AskedNames$Store")) (sz := o + 21) X O (by decide +kernel) fl10_67r.1 (fun C T N h => by cases h; exact ⟨rfl, by decide +kernel⟩) (fun C T N h => by cases h; rfl) rfl rfl p11_o (by rw [fl10_67r.2, eh25]; exact Wr.r (x := some (o + 20))) ?_
  refine g_aload_n (n := 0) (sz := o + 21) X (by decide +kernel) 0 rfl ?_
  refine g_bipush (n := 60) (x := (60 : Int32)) (sz := o + 21) X (by decide +kernel) (by decide) ?_
  refine i_anew (t := 11) (n := 60) (idx := 71) (sz := o + 21) X O Q (by decide +kernel) rfl rfl (in_c2 109 rfl rfl) (by decide) (by decide) (by decide) (by decide) (by decide) ?_
  obtain ⟨K12, eK12⟩ : ∃ q, q = kS K11 (o + 21) (.inr (11, 60)) := ⟨_, rfl⟩
  rw [← eK12]
  obtain ⟨h26, eh26⟩ : ∃ q, q = zr h25 (o + 21) := ⟨_, rfl⟩
  rw [← eh26]
  have p12_o : K12 (o) = some (.inl 22) := by rw [eK12]; exact kS_ne p11_o (by omega)
  have q12 : K12 (o + 21) = some (.inr (11, 60)) := by rw [eK12]; exact kS_eq
  obtain ⟨h27, eh27⟩ : ∃ q, q = sR h26 o 14 (some (o + 21)) := ⟨_, rfl⟩
  refine i_putF (h' := h27) (ty := .array (.object "AskedNames$Fate")) (sz := o + 22) X O (by decide +kernel) fl10_73r.1 (fun C T N h => by cases h; exact ⟨rfl, by decide +kernel⟩) (fun C T N h => by cases h; rfl) rfl rfl p12_o (by rw [fl10_73r.2, eh27]; exact Wr.r (x := some (o + 21))) ?_
  refine g_aload_n (n := 0) (sz := o + 22) X (by decide +kernel) 0 rfl ?_
  refine g_bipush (n := 7) (x := (7 : Int32)) (sz := o + 22) X (by decide +kernel) (by decide) ?_
  refine i_newa (aty := .int) (t := 0) (n := 7) (sz := o + 22) X O (by decide +kernel) (by decide) rfl ac_0 rfl (by decide) (by decide) (by decide) (by decide) (by decide) ?_
  obtain ⟨K13, eK13⟩ : ∃ q, q = kS K12 (o + 22) (.inr (0, 7)) := ⟨_, rfl⟩
  rw [← eK13]
  obtain ⟨h28, eh28⟩ : ∃ q, q = zr h27 (o + 22) := ⟨_, rfl⟩
  rw [← eh28]
  have p13_o : K13 (o) = some (.inl 22) := by rw [eK13]; exact kS_ne p12_o (by omega)
  have q13 : K13 (o + 22) = some (.inr (0, 7)) := by rw [eK13]; exact kS_eq
  obtain ⟨h29, eh29⟩ : ∃ q, q = sR h28 o 15 (some (o + 22)) := ⟨_, rfl⟩
  refine i_putF (h' := h29) (ty := .array (.int)) (sz := o + 23) X O (by decide +kernel) fl10_77r.1 (fun C T N h => by cases h; exact ⟨rfl, by decide +kernel⟩) (fun C T N h => by cases h; rfl) rfl rfl p13_o (by rw [fl10_77r.2, eh29]; exact Wr.r (x := some (o + 22))) ?_
  subst eh29
  subst eh28
  subst eK13
  subst eh27
  subst eh26
  subst eK12
  subst eh25
  subst eh24
  subst eK11
  subst eh23
  subst eh22
  subst eK10
  subst eh21
  subst eh20
  subst eK9
  subst eh19
  subst eh18
  subst eK8
  subst eh17
  subst eK7
  subst eh16
  subst eh15
  subst eK6
  subst eh14
  subst eK5
  subst eh13
  subst eh12
  subst eh11
  subst eK4
  subst eh10
  subst eh9
  subst eh8
  subst eK3
  subst eh7
  subst eh6
  subst eh5
  subst eh4
  subst eh3
  subst eh2
  subst eK2
  subst eh1
  subst eK1
  exact kk
def kE (o : Nat) : Nat → Nat → Ly → Ly
  | 0, _, K => K
  | d + 1, i, K => kE o d (i + 1) (kI7 (kS (kI6 (kS K (o + 23 + 2 * i) (.inl 18)) (o + 23 + 2 * i)) (o + 23 + 2 * i + 1) (.inl 19)) (o + 23 + 2 * i + 1))
def hE (o : Nat) : Nat → Nat → Hp → Hp
  | 0, _, h => h
  | d + 1, i, h => hE o d (i + 1) (sR (hI7 (zr (sR (hI6 (zr h (o + 23 + 2 * i)) (o + 23 + 2 * i)) (o + 14) i (some (o + 23 + 2 * i))) (o + 23 + 2 * i + 1)) (o + 23 + 2 * i + 1)) (o + 15) i (some (o + 23 + 2 * i + 1)))
def kC (o : Nat) : Nat → Nat → Ly → Ly
  | 0, _, K => K
  | d + 1, i, K => kC o d (i + 1) (kI8 (kS K (o + 743 + 4 * i) (.inl 20)) (o + 743 + 4 * i))
def hC (o : Nat) : Nat → Nat → Hp → Hp
  | 0, _, h => h
  | d + 1, i, h => hC o d (i + 1) (sR (hI8 (zr h (o + 743 + 4 * i)) (o + 743 + 4 * i)) (o + 20) i (some (o + 743 + 4 * i)))
def kD (o : Nat) : Nat → Nat → Ly → Ly
  | 0, _, K => K
  | d + 1, i, K => kD o d (i + 1) (kI9 (kS K (o + 767 + i) (.inl 21)) (o + 767 + i))
def hD (o : Nat) : Nat → Nat → Hp → Hp
  | 0, _, h => h
  | d + 1, i, h => hD o d (i + 1) (sR (hI9 (zr h (o + 767 + i)) (o + 767 + i)) (o + 21) i (some (o + 767 + i)))
set_option maxHeartbeats 4000000 in
set_option maxRecDepth 100000 in
theorem ic_b {Γ : CT} {sp : Sp} {zf : Nat} {Kf : Ly} {hf : Hp} (X : Ok Γ sp prog_2_method_1_code y10_init.cls 2 none 2 none zf Kf hf) (O : Oi Γ 826 10609) (Q : AOg Γ) {o : Nat} : ∀ (d i : Nat) (K : Ly) (h : Hp), i + d = 360 → K o = some (.inl 22) → K (o + 14) = some (.inr (8, 360)) → K (o + 15) = some (.inr (9, 360)) → h.2.2 o 5 = some (o + 14) → h.2.2 o 7 = some (o + 15) → Go Γ (742, 10033) 170 [(0, .ref o), (1, .int (nI 360))] [] (o + 743) (kE o d i K) (hE o d i h) → Go Γ (22 + 2 * i, 1033 + 25 * i) 131 [(0, .ref o), (1, .int (nI i))] [] (o + 23 + 2 * i) K h := by
  intro d
  induction d with
  | zero =>
    intro i K h hi hk k14 k15 r5 r7 kk
    obtain rfl : i = 360 := by omega
    refine g_iload_n (n := 1) X (by decide +kernel) 1 rfl ?_
    refine g_sipush (n := 360) (x := (360 : Int32)) X (by decide +kernel) (by decide) ?_
    exact g_icmp_ge_t (off := 35) (tgt := 170) X (by decide +kernel) (by decide) (by decide) kk
  | succ d ih =>
    intro i K h hi hk k14 k15 r5 r7 kk
    have c : ¬ (360 : Int32) ≤ nI i := nI_ge (b := 360) (by omega) (by omega)
    have in1 : inb (nI i) 360 = true := x_in (by omega) (by omega)
    refine g_iload_n (n := 1) X (by decide +kernel) 1 rfl ?_
    refine g_sipush (n := 360) (x := (360 : Int32)) X (by decide +kernel) (by decide) ?_
    refine g_icmp_ge_f (off := 35) (tgt := 170) X (by decide +kernel) (by decide) c ?_
    refine g_aload_n (n := 0) X (by decide +kernel) 0 rfl ?_
    refine g_getR (e := o + 14) X (by decide +kernel) fl10_33r hk r5 ?_
    refine g_iload_n (n := 1) X (by decide +kernel) 1 rfl ?_
    refine i_new (idx := 31) (sz := o + 23 + 2 * i) X O (by decide +kernel) ck18 (in_c2 38 rfl rfl) inst6 ini6 def6 raw6 (by show 22 + 2 * i + 1 ≤ 826; omega) (by show 1033 + 25 * i + 11 ≤ 10609; omega) ?_
    refine g_dup X (by decide +kernel) rfl ?_
    refine i_call (o := o + 23 + 2 * i) (idx := 80) (sz := o + 23 + 2 * i + 1) X O Q (by decide +kernel) mi10_80 (by decide) (Nat.le_of_ble_eq_true rfl) (by show 22 + 2 * i + 1 + 0 ≤ 826; omega) (by show 1033 + 25 * i + 11 + 0 ≤ 10609; omega) (ci6 kS_eq) ?_
    obtain ⟨K1, eK1⟩ : ∃ q, q = kI6 (kS K (o + 23 + 2 * i) (.inl 18)) (o + 23 + 2 * i) := ⟨_, rfl⟩
    obtain ⟨h1, eh1⟩ : ∃ q, q = hI6 (zr h (o + 23 + 2 * i)) (o + 23 + 2 * i) := ⟨_, rfl⟩
    rw [← eK1, ← eh1]
    have t1 : ∀ a, a < o + 23 + 2 * i → K1 a = K a := fun a ha => by rw [eK1, kI6_old ha, kS_ne2 (by omega)]
    have u1 : ∀ a k, a < o + 23 + 2 * i → h1.2.2 a k = h.2.2 a k := fun a k ha => by rw [eh1]; exact (o_tr (hI6_old ha) (o_zr (by omega) ⟨fun _ => rfl, fun _ => rfl, fun _ => rfl⟩)).2.2 k
    refine g_rast (ci := 6) (h1 := sR h1 (o + 14) i (some (o + 23 + 2 * i))) X (by decide +kernel) (by rw [t1 _ (by omega)]; exact k14) rfl rfl rfl (by rw [eK1]; exact kI6_o) in1 (by rw [x_cl (by omega)]) ?_
    obtain ⟨h2, eh2⟩ : ∃ q, q = sR h1 (o + 14) i (some (o + 23 + 2 * i)) := ⟨_, rfl⟩
    rw [← eh2]
    have u2 : ∀ a k, a < o + 23 + 2 * i → a ≠ o + 14 → h2.2.2 a k = h.2.2 a k := fun a k ha hb => by rw [eh2, (o_sR hb ⟨fun _ => rfl, fun _ => rfl, fun _ => rfl⟩).2.2 k, u1 a k ha]
    refine g_aload_n (n := 0) X (by decide +kernel) 0 rfl ?_
    refine g_getR (e := o + 15) X (by decide +kernel) fl10_42r (by rw [t1 _ (by omega)]; exact hk) (by rw [u2 _ _ (by omega) (by omega)]; exact r7) ?_
    refine g_iload_n (n := 1) X (by decide +kernel) 1 rfl ?_
    refine i_new (idx := 40) (sz := o + 23 + 2 * i + 1) X O (by decide +kernel) ck19 (in_c2 40 rfl rfl) inst7 ini7 def7 raw7 (by show 22 + 2 * i + 1 + 0 + 1 ≤ 826; omega) (by show 1033 + 25 * i + 11 + 0 + 14 ≤ 10609; omega) ?_
    refine g_dup X (by decide +kernel) rfl ?_
    refine i_call (o := o + 23 + 2 * i + 1) (idx := 49) (sz := o + 23 + 2 * i + 1 + 1) X O Q (by decide +kernel) mi10_49 (by decide) (Nat.le_of_ble_eq_true rfl) (by show 22 + 2 * i + 1 + 0 + 1 + 0 ≤ 826; omega) (by show 1033 + 25 * i + 11 + 0 + 14 + 0 ≤ 10609; omega) (ci7 kS_eq) ?_
    obtain ⟨K2, eK2⟩ : ∃ q, q = kI7 (kS K1 (o + 23 + 2 * i + 1) (.inl 19)) (o + 23 + 2 * i + 1) := ⟨_, rfl⟩
    obtain ⟨h3, eh3⟩ : ∃ q, q = hI7 (zr h2 (o + 23 + 2 * i + 1)) (o + 23 + 2 * i + 1) := ⟨_, rfl⟩
    rw [← eK2, ← eh3]
    have t2 : ∀ a, a < o + 23 + 2 * i → K2 a = K a := fun a ha => by rw [eK2, kI7_old (by omega), kS_ne2 (by omega), t1 a ha]
    have u3 : ∀ a k, a < o + 23 + 2 * i → a ≠ o + 14 → h3.2.2 a k = h.2.2 a k := fun a k ha hb => by rw [eh3, (o_tr (hI7_old (show a < o + 23 + 2 * i + 1 by omega)) (o_zr (by omega) ⟨fun _ => rfl, fun _ => rfl, fun _ => rfl⟩)).2.2 k, u2 a k ha hb]
    refine g_rast (ci := 7) (h1 := sR h3 (o + 15) i (some (o + 23 + 2 * i + 1))) X (by decide +kernel) (by rw [t2 _ (by omega)]; exact k15) rfl rfl rfl (by rw [eK2]; exact kI7_o) in1 (by rw [x_cl (by omega)]) ?_
    obtain ⟨h4, eh4⟩ : ∃ q, q = sR h3 (o + 15) i (some (o + 23 + 2 * i + 1)) := ⟨_, rfl⟩
    rw [← eh4]
    have u4 : ∀ k, h4.2.2 o k = h.2.2 o k := fun k => by rw [eh4, (o_sR (show o ≠ o + 15 by omega) ⟨fun _ => rfl, fun _ => rfl, fun _ => rfl⟩).2.2 k, u3 o k (by omega) (by omega)]
    refine g_iinc (i := 1) (n := 1) (x := nI i) (y := nI (i + 1)) X (by decide +kernel) 1 rfl (nI_1 (a := i)) (by decide) [1, 0] rfl ?_
    refine g_goto (off := -36) (tgt := 131) X (by decide +kernel) (by decide) ?_
    have fin := ih (i + 1) K2 h4 (by omega) (by rw [t2 _ (by omega)]; exact hk) (by rw [t2 _ (by omega)]; exact k14) (by rw [t2 _ (by omega)]; exact k15) (by rw [u4]; exact r5) (by rw [u4]; exact r7) (by rw [eK2, eK1, eh4, eh3, eh2, eh1]; exact kk)
    rw [show 22 + 2 * (i + 1) = 22 + 2 * i + 1 + 0 + 1 + 0 by omega, show 1033 + 25 * (i + 1) = 1033 + 25 * i + 11 + 0 + 14 + 0 by omega, show o + 23 + 2 * (i + 1) = o + 23 + 2 * i + 1 + 1 by omega] at fin
    exact fin
set_option maxHeartbeats 4000000 in
set_option maxRecDepth 100000 in
theorem ic_c {Γ : CT} {sp : Sp} {zf : Nat} {Kf : Ly} {hf : Hp} (X : Ok Γ sp prog_2_method_1_code y10_init.cls 2 none 2 none zf Kf hf) (O : Oi Γ 826 10609) (Q : AOg Γ) {o : Nat} : ∀ (d i : Nat) (K : Ly) (h : Hp), i + d = 6 → K o = some (.inl 22) → K (o + 20) = some (.inr (10, 6)) → h.2.2 o 13 = some (o + 20) → Go Γ (766, 10129) 197 [(0, .ref o), (1, .int (nI 6))] [] (o + 767) (kC o d i K) (hC o d i h) → Go Γ (742 + 4 * i, 10033 + 16 * i) 172 [(0, .ref o), (1, .int (nI i))] [] (o + 743 + 4 * i) K h := by
  intro d
  induction d with
  | zero =>
    intro i K h hi hk k14 r5 kk
    obtain rfl : i = 6 := by omega
    refine g_iload_n (n := 1) X (by decide +kernel) 1 rfl ?_
    refine g_bipush (n := 6) (x := (6 : Int32)) X (by decide +kernel) (by decide) ?_
    exact g_icmp_ge_t (off := 22) (tgt := 197) X (by decide +kernel) (by decide) (by decide) kk
  | succ d ih =>
    intro i K h hi hk k14 r5 kk
    have c : ¬ (6 : Int32) ≤ nI i := nI_ge (b := 6) (by omega) (by omega)
    have in1 : inb (nI i) 6 = true := x_in (by omega) (by omega)
    refine g_iload_n (n := 1) X (by decide +kernel) 1 rfl ?_
    refine g_bipush (n := 6) (x := (6 : Int32)) X (by decide +kernel) (by decide) ?_
    refine g_icmp_ge_f (off := 22) (tgt := 197) X (by decide +kernel) (by decide) c ?_
    refine g_aload_n (n := 0) X (by decide +kernel) 0 rfl ?_
    refine g_getR (e := o + 20) X (by decide +kernel) fl10_67r hk r5 ?_
    refine g_iload_n (n := 1) X (by decide +kernel) 1 rfl ?_
    refine i_new (idx := 65) (sz := o + 743 + 4 * i) X O (by decide +kernel) ck20 (in_c2 107 rfl rfl) inst8 ini8 def8 raw8 (by show 742 + 4 * i + 1 ≤ 826; omega) (by show 10033 + 16 * i + 4 ≤ 10609; omega) ?_
    refine g_dup X (by decide +kernel) rfl ?_
    refine i_call (o := o + 743 + 4 * i) (idx := 81) (sz := o + 743 + 4 * i + 1) X O Q (by decide +kernel) mi10_81 (by decide) (Nat.le_of_ble_eq_true rfl) (by show 742 + 4 * i + 1 + 3 ≤ 826; omega) (by show 10033 + 16 * i + 4 + 12 ≤ 10609; omega) (ci8 kS_eq) ?_
    obtain ⟨K1, eK1⟩ : ∃ q, q = kI8 (kS K (o + 743 + 4 * i) (.inl 20)) (o + 743 + 4 * i) := ⟨_, rfl⟩
    obtain ⟨h1, eh1⟩ : ∃ q, q = hI8 (zr h (o + 743 + 4 * i)) (o + 743 + 4 * i) := ⟨_, rfl⟩
    rw [← eK1, ← eh1]
    have t1 : ∀ a, a < o + 743 + 4 * i → K1 a = K a := fun a ha => by rw [eK1, kI8_old ha, kS_ne2 (by omega)]
    have u1 : ∀ a k, a < o + 743 + 4 * i → h1.2.2 a k = h.2.2 a k := fun a k ha => by rw [eh1]; exact (o_tr (hI8_old ha) (o_zr (by omega) ⟨fun _ => rfl, fun _ => rfl, fun _ => rfl⟩)).2.2 k
    refine g_rast (ci := 8) (h1 := sR h1 (o + 20) i (some (o + 743 + 4 * i))) X (by decide +kernel) (by rw [t1 _ (by omega)]; exact k14) rfl rfl rfl (by rw [eK1]; exact kI8_o) in1 (by rw [x_cl (by omega)]) ?_
    obtain ⟨h2, eh2⟩ : ∃ q, q = sR h1 (o + 20) i (some (o + 743 + 4 * i)) := ⟨_, rfl⟩
    rw [← eh2]
    have u2 : ∀ k, h2.2.2 o k = h.2.2 o k := fun k => by rw [eh2, (o_sR (show o ≠ o + 20 by omega) ⟨fun _ => rfl, fun _ => rfl, fun _ => rfl⟩).2.2 k, u1 o k (by omega)]
    refine g_iinc (i := 1) (n := 1) (x := nI i) (y := nI (i + 1)) X (by decide +kernel) 1 rfl (nI_1 (a := i)) (by decide) [1, 0] rfl ?_
    refine g_goto (off := -22) (tgt := 172) X (by decide +kernel) (by decide) ?_
    have fin := ih (i + 1) K1 h2 (by omega) (by rw [t1 _ (by omega)]; exact hk) (by rw [t1 _ (by omega)]; exact k14) (by rw [u2]; exact r5) (by rw [eK1, eh2, eh1]; exact kk)
    rw [show 742 + 4 * (i + 1) = 742 + 4 * i + 1 + 3 by omega, show 10033 + 16 * (i + 1) = 10033 + 16 * i + 4 + 12 by omega, show o + 743 + 4 * (i + 1) = o + 743 + 4 * i + 4 by omega] at fin
    exact fin
set_option maxHeartbeats 4000000 in
set_option maxRecDepth 100000 in
theorem ic_d {Γ : CT} {sp : Sp} {zf : Nat} {Kf : Ly} {hf : Hp} (X : Ok Γ sp prog_2_method_1_code y10_init.cls 2 none 2 none zf Kf hf) (O : Oi Γ 826 10609) (Q : AOg Γ) {o : Nat} : ∀ (d i : Nat) (K : Ly) (h : Hp), i + d = 60 → K o = some (.inl 22) → K (o + 21) = some (.inr (11, 60)) → h.2.2 o 14 = some (o + 21) → Go Γ (826, 10609) 224 [(0, .ref o), (1, .int (nI 60))] [] (o + 827) (kD o d i K) (hD o d i h) → Go Γ (766 + i, 10129 + 8 * i) 199 [(0, .ref o), (1, .int (nI i))] [] (o + 767 + i) K h := by
  intro d
  induction d with
  | zero =>
    intro i K h hi hk k14 r5 kk
    obtain rfl : i = 60 := by omega
    refine g_iload_n (n := 1) X (by decide +kernel) 1 rfl ?_
    refine g_bipush (n := 60) (x := (60 : Int32)) X (by decide +kernel) (by decide) ?_
    exact g_icmp_ge_t (off := 22) (tgt := 224) X (by decide +kernel) (by decide) (by decide) kk
  | succ d ih =>
    intro i K h hi hk k14 r5 kk
    have c : ¬ (60 : Int32) ≤ nI i := nI_ge (b := 60) (by omega) (by omega)
    have in1 : inb (nI i) 60 = true := x_in (by omega) (by omega)
    refine g_iload_n (n := 1) X (by decide +kernel) 1 rfl ?_
    refine g_bipush (n := 60) (x := (60 : Int32)) X (by decide +kernel) (by decide) ?_
    refine g_icmp_ge_f (off := 22) (tgt := 224) X (by decide +kernel) (by decide) c ?_
    refine g_aload_n (n := 0) X (by decide +kernel) 0 rfl ?_
    refine g_getR (e := o + 21) X (by decide +kernel) fl10_73r hk r5 ?_
    refine g_iload_n (n := 1) X (by decide +kernel) 1 rfl ?_
    refine i_new (idx := 71) (sz := o + 767 + i) X O (by decide +kernel) ck21 (in_c2 109 rfl rfl) inst9 ini9 def9 raw9 (by show 766 + i + 1 ≤ 826; omega) (by show 10129 + 8 * i + 8 ≤ 10609; omega) ?_
    refine g_dup X (by decide +kernel) rfl ?_
    refine i_call (o := o + 767 + i) (idx := 82) (sz := o + 767 + i + 1) X O Q (by decide +kernel) mi10_82 (by decide) (Nat.le_of_ble_eq_true rfl) (by show 766 + i + 1 + 0 ≤ 826; omega) (by show 10129 + 8 * i + 8 + 0 ≤ 10609; omega) (ci9 kS_eq) ?_
    obtain ⟨K1, eK1⟩ : ∃ q, q = kI9 (kS K (o + 767 + i) (.inl 21)) (o + 767 + i) := ⟨_, rfl⟩
    obtain ⟨h1, eh1⟩ : ∃ q, q = hI9 (zr h (o + 767 + i)) (o + 767 + i) := ⟨_, rfl⟩
    rw [← eK1, ← eh1]
    have t1 : ∀ a, a < o + 767 + i → K1 a = K a := fun a ha => by rw [eK1, kI9_old ha, kS_ne2 (by omega)]
    have u1 : ∀ a k, a < o + 767 + i → h1.2.2 a k = h.2.2 a k := fun a k ha => by rw [eh1]; exact (o_tr (hI9_old ha) (o_zr (by omega) ⟨fun _ => rfl, fun _ => rfl, fun _ => rfl⟩)).2.2 k
    refine g_rast (ci := 9) (h1 := sR h1 (o + 21) i (some (o + 767 + i))) X (by decide +kernel) (by rw [t1 _ (by omega)]; exact k14) rfl rfl rfl (by rw [eK1]; exact kI9_o) in1 (by rw [x_cl (by omega)]) ?_
    obtain ⟨h2, eh2⟩ : ∃ q, q = sR h1 (o + 21) i (some (o + 767 + i)) := ⟨_, rfl⟩
    rw [← eh2]
    have u2 : ∀ k, h2.2.2 o k = h.2.2 o k := fun k => by rw [eh2, (o_sR (show o ≠ o + 21 by omega) ⟨fun _ => rfl, fun _ => rfl, fun _ => rfl⟩).2.2 k, u1 o k (by omega)]
    refine g_iinc (i := 1) (n := 1) (x := nI i) (y := nI (i + 1)) X (by decide +kernel) 1 rfl (nI_1 (a := i)) (by decide) [1, 0] rfl ?_
    refine g_goto (off := -22) (tgt := 199) X (by decide +kernel) (by decide) ?_
    have fin := ih (i + 1) K1 h2 (by omega) (by rw [t1 _ (by omega)]; exact hk) (by rw [t1 _ (by omega)]; exact k14) (by rw [u2]; exact r5) (by rw [eK1, eh2, eh1]; exact kk)
    rw [show 766 + (i + 1) = 766 + i + 1 + 0 by omega, show 10129 + 8 * (i + 1) = 10129 + 8 * i + 8 + 0 by omega, show o + 767 + (i + 1) = o + 767 + i + 1 by omega] at fin
    exact fin
