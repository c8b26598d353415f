def kI11 (K : Ly) (o : Nat) : Ly := (kS (kS (kS (kS (kS (kS (kS (kS (kS (kS (kS (kS (kS (kS (kS (kS (kS (kS (kS (kS (kS (kS (kS (kS (kS (kS (kS (kS (kS (kS (kS (kS (kS (kS (kS (kS (kS (kS (kS (kS (kS (kS (kS (kS (kS (kS (kS (kS (kS (kS (kS (kS (kS K (o + 1) (.inr (1, 2400))) (o + 2) (.inr (0, 4))) (o + 3) (.inr (0, 4))) (o + 4) (.inr (0, 4))) (o + 5) (.inr (0, 12))) (o + 6) (.inr (0, 976))) (o + 7) (.inr (0, 968))) (o + 8) (.inr (0, 136))) (o + 9) (.inr (0, 122))) (o + 10) (.inr (0, 4))) (o + 11) (.inr (0, 36))) (o + 12) (.inr (3, 6))) (o + 13) (.inr (0, 36))) (o + 14) (.inr (0, 6))) (o + 15) (.inr (0, 36))) (o + 16) (.inr (0, 36))) (o + 17) (.inr (0, 36))) (o + 18) (.inr (0, 6))) (o + 19) (.inr (0, 384))) (o + 20) (.inr (0, 384))) (o + 21) (.inr (0, 384))) (o + 22) (.inr (3, 384))) (o + 23) (.inr (3, 384))) (o + 24) (.inr (0, 384))) (o + 25) (.inr (0, 384))) (o + 26) (.inr (0, 384))) (o + 27) (.inr (0, 384))) (o + 28) (.inr (0, 384))) (o + 29) (.inr (0, 4096))) (o + 30) (.inr (0, 4096))) (o + 31) (.inr (0, 4096))) (o + 32) (.inr (0, 4096))) (o + 33) (.inr (0, 4096))) (o + 34) (.inr (0, 4096))) (o + 35) (.inr (0, 4096))) (o + 36) (.inr (0, 4096))) (o + 37) (.inr (0, 4096))) (o + 38) (.inr (0, 4096))) (o + 39) (.inr (0, 4096))) (o + 40) (.inr (0, 64))) (o + 41) (.inr (0, 64))) (o + 42) (.inr (0, 64))) (o + 43) (.inr (0, 64))) (o + 44) (.inr (0, 64))) (o + 45) (.inr (0, 64))) (o + 46) (.inr (0, 64))) (o + 47) (.inr (0, 64))) (o + 48) (.inr (0, 48))) (o + 49) (.inr (0, 8))) (o + 50) (.inr (0, 36))) (o + 51) (.inr (0, 40))) (o + 52) (.inr (2, 3))) o (.inl 11))
def zs (o : Nat) : List (Nat × Nat) → Hp → Hp
  | [], h => h
  | (f, k) :: r, h => zs o r (sR (zr h (o + k)) o f (some (o + k)))
theorem zs_ne (o j : Nat) : ∀ (l : List (Nat × Nat)) (h : Hp), (∀ q ∈ l, 1 ≤ q.2 ∧ q.1 ≠ j) → (zs o l h).2.2 o j = h.2.2 o j := by
  intro l
  induction l with
  | nil => intro h _; rfl
  | cons q l ih =>
    intro h hq
    obtain ⟨f, k⟩ := q
    obtain ⟨h1, h2⟩ := hq (f, k) List.mem_cons_self
    show (zs o l (sR (zr h (o + k)) o f (some (o + k)))).2.2 o j = _
    rw [ih _ (fun q hq2 => hq q (List.mem_cons_of_mem _ hq2))]
    have h3 : j ≠ f := fun e => h2 e.symm
    have h1 : 1 ≤ k := h1
    have h4 : ¬ k = 0 := by omega
    simp [sR, zr, h3, h4]
theorem zs_at (o j k : Nat) : ∀ (l : List (Nat × Nat)) (h : Hp), (∀ q ∈ l, 1 ≤ q.2) → (l.map (·.1)).Nodup → (j, k) ∈ l → (zs o l h).2.2 o j = some (o + k) := by
  intro l
  induction l with
  | nil => intro h _ _ hm; cases hm
  | cons q l ih =>
    intro h hq hn hm
    obtain ⟨f, k2⟩ := q
    rw [List.map_cons, List.nodup_cons] at hn
    show (zs o l (sR (zr h (o + k2)) o f (some (o + k2)))).2.2 o j = _
    rcases List.mem_cons.mp hm with e | hm
    · cases e
      rw [zs_ne o j l _ (fun q hq2 => ⟨hq q (List.mem_cons_of_mem _ hq2), fun e => hn.1 (List.mem_map.mpr ⟨q, hq2, e⟩)⟩)]
      simp [sR]
    · exact ih _ (fun q hq2 => hq q (List.mem_cons_of_mem _ hq2)) hn.2 hm
def ol11 : List (Nat × Nat) := [(1, 1), (2, 2), (3, 3), (4, 4), (5, 5), (6, 6), (7, 7), (8, 8), (18, 9), (19, 10), (25, 11), (28, 12), (29, 13), (30, 14), (31, 15), (32, 16), (33, 17), (34, 18), (35, 19), (36, 20), (37, 21), (38, 22), (39, 23), (40, 24), (41, 25), (42, 26), (43, 27), (44, 28), (46, 29), (47, 30), (48, 31), (49, 32), (50, 33), (51, 34), (52, 35), (53, 36), (54, 37), (55, 38), (56, 39), (57, 40), (58, 41), (59, 42), (60, 43), (61, 44), (62, 45), (63, 46), (64, 47), (77, 48), (78, 49), (80, 50), (84, 51), (86, 52)]
def hI11 (h : Hp) (o : Nat) : Hp := (sI (sR (zr (sR (zr (sR (zr (sR (zr (sR (zr (sR (zr (sR (zr (sR (zr (sR (zr (sR (zr (sR (zr (sR (zr (sR (zr (sR (zr (sR (zr (sR (zr (sR (zr (sR (zr (sR (zr (sR (zr (sR (zr (sR (zr (sR (zr (sR (zr (sR (zr (sR (zr (sR (zr (sR (zr (sR (zr (sR (zr (sR (zr (sR (zr (sR (zr (sR (zr (sR (zr (sR (zr (sR (zr (sR (zr (sR (zr (sR (zr (sR (zr (sR (zr (sR (zr (sR (zr (sR (zr (sR (zr (sR (zr (sR (zr (sR (zr (sR (zr (sR (zr (sR (zr h (o + 1)) o 1 (some (o + 1))) (o + 2)) o 2 (some (o + 2))) (o + 3)) o 3 (some (o + 3))) (o + 4)) o 4 (some (o + 4))) (o + 5)) o 5 (some (o + 5))) (o + 6)) o 6 (some (o + 6))) (o + 7)) o 7 (some (o + 7))) (o + 8)) o 8 (some (o + 8))) (o + 9)) o 18 (some (o + 9))) (o + 10)) o 19 (some (o + 10))) (o + 11)) o 25 (some (o + 11))) (o + 12)) o 28 (some (o + 12))) (o + 13)) o 29 (some (o + 13))) (o + 14)) o 30 (some (o + 14))) (o + 15)) o 31 (some (o + 15))) (o + 16)) o 32 (some (o + 16))) (o + 17)) o 33 (some (o + 17))) (o + 18)) o 34 (some (o + 18))) (o + 19)) o 35 (some (o + 19))) (o + 20)) o 36 (some (o + 20))) (o + 21)) o 37 (some (o + 21))) (o + 22)) o 38 (some (o + 22))) (o + 23)) o 39 (some (o + 23))) (o + 24)) o 40 (some (o + 24))) (o + 25)) o 41 (some (o + 25))) (o + 26)) o 42 (some (o + 26))) (o + 27)) o 43 (some (o + 27))) (o + 28)) o 44 (some (o + 28))) (o + 29)) o 46 (some (o + 29))) (o + 30)) o 47 (some (o + 30))) (o + 31)) o 48 (some (o + 31))) (o + 32)) o 49 (some (o + 32))) (o + 33)) o 50 (some (o + 33))) (o + 34)) o 51 (some (o + 34))) (o + 35)) o 52 (some (o + 35))) (o + 36)) o 53 (some (o + 36))) (o + 37)) o 54 (some (o + 37))) (o + 38)) o 55 (some (o + 38))) (o + 39)) o 56 (some (o + 39))) (o + 40)) o 57 (some (o + 40))) (o + 41)) o 58 (some (o + 41))) (o + 42)) o 59 (some (o + 42))) (o + 43)) o 60 (some (o + 43))) (o + 44)) o 61 (some (o + 44))) (o + 45)) o 62 (some (o + 45))) (o + 46)) o 63 (some (o + 46))) (o + 47)) o 64 (some (o + 47))) (o + 48)) o 77 (some (o + 48))) (o + 49)) o 78 (some (o + 49))) (o + 50)) o 80 (some (o + 50))) (o + 51)) o 84 (some (o + 51))) (o + 52)) o 86 (some (o + 52))) (o + 4) (0 : Int32).toNatClampNeg (-1 : Int32))
theorem hI11_eq (h : Hp) (o : Nat) : hI11 h o = sI (zs o ol11 h) (o + 4) (0 : Int32).toNatClampNeg (-1 : Int32) := by
  simp only [hI11, ol11, zs]
theorem kI11_o {K : Ly} {o : Nat} : kI11 K o o = some (.inl 11) := by simp [kI11, kS]
theorem kI11_old {K : Ly} {o a : Nat} (ha : a < o) : kI11 K o a = K a := by
  unfold kI11
  repeat (first | rw [kS, if_neg (by omega)] | rfl)
theorem hall11 (K : Ly) (h : Hp) (o j : Nat) (hj : j < 87) : tV (fc 23 j) (hI11 h o) o j = tV (fc 11 j) (hI11 h o) o j := by
  by_cases hs : fc 23 j = fc 11 j
  · rw [hs]
  · have h1 : fc 23 j = 2 := (show ∀ j, j < 87 → ¬ fc 23 j = fc 11 j → fc 23 j = 2 by decide +kernel) j hj hs
    have h2 := (show ∀ j, j < 87 → ¬ fc 23 j = fc 11 j → (ol11.any (fun q => q.1 == j && q.2 + 3 == fc 11 j)) = true by decide +kernel) j hj hs
    obtain ⟨⟨j2, k⟩, hq, hb⟩ := List.any_eq_true.mp h2
    simp only [Bool.and_eq_true, beq_iff_eq] at hb
    obtain ⟨rfl, hb⟩ := hb
    rw [h1, ← hb, hI11_eq]
    show va_rf ((zs o ol11 h).2.2 o j2) = .ref (o + k)
    rw [zs_at o j2 k ol11 h (by decide) (by decide) hq]
    rfl
set_option maxRecDepth 100000 in
theorem im_1 {Γ : CT} {sp : Sp} {zf : Nat} {Kf : Ly} {hf : Hp} (X : Ok Γ sp prog_13_method_1_code y11_init.cls 1 none 1 none zf Kf hf) (O : Oi Γ 52 54371) {o : Nat} {K : Ly} {h : Hp} (hk : K o = some (.inl 23)) (kk : Go Γ (1, 2400) 13 [(0, .ref o)] [] (o + 2) (kS K (o + 1) (.inr (1, 2400))) (sR (zr h (o + 1)) o 1 (some (o + 1)))) : Go Γ (0, 0) 4 [(0, .ref o)] [] (o + 1) K h := by
  refine g_aload_n (n := 0) (sz := o + 1) X (by decide +kernel) 0 rfl ?_
  refine g_sipush (n := 2400) (x := (2400 : Int32)) (sz := o + 1) X (by decide +kernel) (by decide) ?_
  refine i_newa (aty := .byte) (t := 1) (n := 2400) (sz := o + 1) X O (by decide +kernel) (by decide) rfl ac_1 rfl (by decide) (by decide) (Nat.le_of_ble_eq_true rfl) (Nat.le_of_ble_eq_true rfl) (Nat.le_of_ble_eq_true rfl) ?_
  exact i_putF (h' := sR (zr h (o + 1)) o 1 (some (o + 1))) (ty := .array (.byte)) (sz := o + 2) X O (by decide +kernel) fl11_7r.1 (fun C T N h => by cases h; exact ⟨rfl, by decide +kernel⟩) (fun C T N h => by cases h; rfl) rfl rfl (kS_ne hk (by omega)) (by rw [fl11_7r.2]; exact Wr.r (x := some (o + 1))) kk
set_option maxRecDepth 100000 in
theorem im_2 {Γ : CT} {sp : Sp} {zf : Nat} {Kf : Ly} {hf : Hp} (X : Ok Γ sp prog_13_method_1_code y11_init.cls 1 none 1 none zf Kf hf) (O : Oi Γ 52 54371) {o : Nat} {K : Ly} {h : Hp} (hk : K o = some (.inl 23)) (kk : Go Γ (2, 2404) 20 [(0, .ref o)] [] (o + 3) (kS K (o + 2) (.inr (0, 4))) (sR (zr h (o + 2)) o 2 (some (o + 2)))) : Go Γ (1, 2400) 13 [(0, .ref o)] [] (o + 2) K h := by
  refine g_aload_n (n := 0) (sz := o + 2) X (by decide +kernel) 0 rfl ?_
  refine g_iconst (n := 4) (x := (4 : Int32)) (sz := o + 2) X (by decide +kernel) (by decide) ?_
  refine i_newa (aty := .int) (t := 0) (n := 4) (sz := o + 2) X O (by decide +kernel) (by decide) rfl ac_0 rfl (by decide) (by decide) (Nat.le_of_ble_eq_true rfl) (Nat.le_of_ble_eq_true rfl) (Nat.le_of_ble_eq_true rfl) ?_
  exact i_putF (h' := sR (zr h (o + 2)) o 2 (some (o + 2))) (ty := .array (.int)) (sz := o + 3) X O (by decide +kernel) fl11_13r.1 (fun C T N h => by cases h; exact ⟨rfl, by decide +kernel⟩) (fun C T N h => by cases h; rfl) rfl rfl (kS_ne hk (by omega)) (by rw [fl11_13r.2]; exact Wr.r (x := some (o + 2))) kk
set_option maxRecDepth 100000 in
theorem im_3 {Γ : CT} {sp : Sp} {zf : Nat} {Kf : Ly} {hf : Hp} (X : Ok Γ sp prog_13_method_1_code y11_init.cls 1 none 1 none zf Kf hf) (O : Oi Γ 52 54371) {o : Nat} {K : Ly} {h : Hp} (hk : K o = some (.inl 23)) (kk : Go Γ (3, 2408) 27 [(0, .ref o)] [] (o + 4) (kS K (o + 3) (.inr (0, 4))) (sR (zr h (o + 3)) o 3 (some (o + 3)))) : Go Γ (2, 2404) 20 [(0, .ref o)] [] (o + 3) K h := by
  refine g_aload_n (n := 0) (sz := o + 3) X (by decide +kernel) 0 rfl ?_
  refine g_iconst (n := 4) (x := (4 : Int32)) (sz := o + 3) X (by decide +kernel) (by decide) ?_
  refine i_newa (aty := .int) (t := 0) (n := 4) (sz := o + 3) X O (by decide +kernel) (by decide) rfl ac_0 rfl (by decide) (by decide) (Nat.le_of_ble_eq_true rfl) (Nat.le_of_ble_eq_true rfl) (Nat.le_of_ble_eq_true rfl) ?_
  exact i_putF (h' := sR (zr h (o + 3)) o 3 (some (o + 3))) (ty := .array (.int)) (sz := o + 4) X O (by decide +kernel) fl11_17r.1 (fun C T N h => by cases h; exact ⟨rfl, by decide +kernel⟩) (fun C T N h => by cases h; rfl) rfl rfl (kS_ne hk (by omega)) (by rw [fl11_17r.2]; exact Wr.r (x := some (o + 3))) kk
set_option maxRecDepth 100000 in
theorem im_4 {Γ : CT} {sp : Sp} {zf : Nat} {Kf : Ly} {hf : Hp} (X : Ok Γ sp prog_13_method_1_code y11_init.cls 1 none 1 none zf Kf hf) (O : Oi Γ 52 54371) {o : Nat} {K : Ly} {h : Hp} (hk : K o = some (.inl 23)) (kk : Go Γ (4, 2412) 34 [(0, .ref o)] [] (o + 5) (kS K (o + 4) (.inr (0, 4))) (sR (zr h (o + 4)) o 4 (some (o + 4)))) : Go Γ (3, 2408) 27 [(0, .ref o)] [] (o + 4) K h := by
  refine g_aload_n (n := 0) (sz := o + 4) X (by decide +kernel) 0 rfl ?_
  refine g_iconst (n := 4) (x := (4 : Int32)) (sz := o + 4) X (by decide +kernel) (by decide) ?_
  refine i_newa (aty := .int) (t := 0) (n := 4) (sz := o + 4) X O (by decide +kernel) (by decide) rfl ac_0 rfl (by decide) (by decide) (Nat.le_of_ble_eq_true rfl) (Nat.le_of_ble_eq_true rfl) (Nat.le_of_ble_eq_true rfl) ?_
  exact i_putF (h' := sR (zr h (o + 4)) o 4 (some (o + 4))) (ty := .array (.int)) (sz := o + 5) X O (by decide +kernel) fl11_20r.1 (fun C T N h => by cases h; exact ⟨rfl, by decide +kernel⟩) (fun C T N h => by cases h; rfl) rfl rfl (kS_ne hk (by omega)) (by rw [fl11_20r.2]; exact Wr.r (x := some (o + 4))) kk
set_option maxRecDepth 100000 in
theorem im_5 {Γ : CT} {sp : Sp} {zf : Nat} {Kf : Ly} {hf : Hp} (X : Ok Γ sp prog_13_method_1_code y11_init.cls 1 none 1 none zf Kf hf) (O : Oi Γ 52 54371) {o : Nat} {K : Ly} {h : Hp} (hk : K o = some (.inl 23)) (kk : Go Γ (5, 2424) 42 [(0, .ref o)] [] (o + 6) (kS K (o + 5) (.inr (0, 12))) (sR (zr h (o + 5)) o 5 (some (o + 5)))) : Go Γ (4, 2412) 34 [(0, .ref o)] [] (o + 5) K h := by
  refine g_aload_n (n := 0) (sz := o + 5) X (by decide +kernel) 0 rfl ?_
  refine g_bipush (n := 12) (x := (12 : Int32)) (sz := o + 5) X (by decide +kernel) (by decide) ?_
  refine i_newa (aty := .int) (t := 0) (n := 12) (sz := o + 5) X O (by decide +kernel) (by decide) rfl ac_0 rfl (by decide) (by decide) (Nat.le_of_ble_eq_true rfl) (Nat.le_of_ble_eq_true rfl) (Nat.le_of_ble_eq_true rfl) ?_
  exact i_putF (h' := sR (zr h (o + 5)) o 5 (some (o + 5))) (ty := .array (.int)) (sz := o + 6) X O (by decide +kernel) fl11_23r.1 (fun C T N h => by cases h; exact ⟨rfl, by decide +kernel⟩) (fun C T N h => by cases h; rfl) rfl rfl (kS_ne hk (by omega)) (by rw [fl11_23r.2]; exact Wr.r (x := some (o + 5))) kk
set_option maxRecDepth 100000 in
theorem im_6 {Γ : CT} {sp : Sp} {zf : Nat} {Kf : Ly} {hf : Hp} (X : Ok Γ sp prog_13_method_1_code y11_init.cls 1 none 1 none zf Kf hf) (O : Oi Γ 52 54371) {o : Nat} {K : Ly} {h : Hp} (hk : K o = some (.inl 23)) (kk : Go Γ (6, 3400) 51 [(0, .ref o)] [] (o + 7) (kS K (o + 6) (.inr (0, 976))) (sR (zr h (o + 6)) o 6 (some (o + 6)))) : Go Γ (5, 2424) 42 [(0, .ref o)] [] (o + 6) K h := by
  refine g_aload_n (n := 0) (sz := o + 6) X (by decide +kernel) 0 rfl ?_
  refine g_sipush (n := 976) (x := (976 : Int32)) (sz := o + 6) X (by decide +kernel) (by decide) ?_
  refine i_newa (aty := .int) (t := 0) (n := 976) (sz := o + 6) X O (by decide +kernel) (by decide) rfl ac_0 rfl (by decide) (by decide) (Nat.le_of_ble_eq_true rfl) (Nat.le_of_ble_eq_true rfl) (Nat.le_of_ble_eq_true rfl) ?_
  exact i_putF (h' := sR (zr h (o + 6)) o 6 (some (o + 6))) (ty := .array (.int)) (sz := o + 7) X O (by decide +kernel) fl11_26r.1 (fun C T N h => by cases h; exact ⟨rfl, by decide +kernel⟩) (fun C T N h => by cases h; rfl) rfl rfl (kS_ne hk (by omega)) (by rw [fl11_26r.2]; exact Wr.r (x := some (o + 6))) kk
set_option maxRecDepth 100000 in
theorem im_7 {Γ : CT} {sp : Sp} {zf : Nat} {Kf : Ly} {hf : Hp} (X : Ok Γ sp prog_13_method_1_code y11_init.cls 1 none 1 none zf Kf hf) (O : Oi Γ 52 54371) {o : Nat} {K : Ly} {h : Hp} (hk : K o = some (.inl 23)) (kk : Go Γ (7, 4368) 60 [(0, .ref o)] [] (o + 8) (kS K (o + 7) (.inr (0, 968))) (sR (zr h (o + 7)) o 7 (some (o + 7)))) : Go Γ (6, 3400) 51 [(0, .ref o)] [] (o + 7) K h := by
  refine g_aload_n (n := 0) (sz := o + 7) X (by decide +kernel) 0 rfl ?_
  refine g_sipush (n := 968) (x := (968 : Int32)) (sz := o + 7) X (by decide +kernel) (by decide) ?_
  refine i_newa (aty := .int) (t := 0) (n := 968) (sz := o + 7) X O (by decide +kernel) (by decide) rfl ac_0 rfl (by decide) (by decide) (Nat.le_of_ble_eq_true rfl) (Nat.le_of_ble_eq_true rfl) (Nat.le_of_ble_eq_true rfl) ?_
  exact i_putF (h' := sR (zr h (o + 7)) o 7 (some (o + 7))) (ty := .array (.int)) (sz := o + 8) X O (by decide +kernel) fl11_29r.1 (fun C T N h => by cases h; exact ⟨rfl, by decide +kernel⟩) (fun C T N h => by cases h; rfl) rfl rfl (kS_ne hk (by omega)) (by rw [fl11_29r.2]; exact Wr.r (x := some (o + 7))) kk
set_option maxRecDepth 100000 in
theorem im_8 {Γ : CT} {sp : Sp} {zf : Nat} {Kf : Ly} {hf : Hp} (X : Ok Γ sp prog_13_method_1_code y11_init.cls 1 none 1 none zf Kf hf) (O : Oi Γ 52 54371) {o : Nat} {K : Ly} {h : Hp} (hk : K o = some (.inl 23)) (kk : Go Γ (8, 4504) 69 [(0, .ref o)] [] (o + 9) (kS K (o + 8) (.inr (0, 136))) (sR (zr h (o + 8)) o 8 (some (o + 8)))) : Go Γ (7, 4368) 60 [(0, .ref o)] [] (o + 8) K h := by
  refine g_aload_n (n := 0) (sz := o + 8) X (by decide +kernel) 0 rfl ?_
  refine g_sipush (n := 136) (x := (136 : Int32)) (sz := o + 8) X (by decide +kernel) (by decide) ?_
  refine i_newa (aty := .int) (t := 0) (n := 136) (sz := o + 8) X O (by decide +kernel) (by decide) rfl ac_0 rfl (by decide) (by decide) (Nat.le_of_ble_eq_true rfl) (Nat.le_of_ble_eq_true rfl) (Nat.le_of_ble_eq_true rfl) ?_
  exact i_putF (h' := sR (zr h (o + 8)) o 8 (some (o + 8))) (ty := .array (.int)) (sz := o + 9) X O (by decide +kernel) fl11_32r.1 (fun C T N h => by cases h; exact ⟨rfl, by decide +kernel⟩) (fun C T N h => by cases h; rfl) rfl rfl (kS_ne hk (by omega)) (by rw [fl11_32r.2]; exact Wr.r (x := some (o + 8))) kk
set_option maxRecDepth 100000 in
theorem im_9 {Γ : CT} {sp : Sp} {zf : Nat} {Kf : Ly} {hf : Hp} (X : Ok Γ sp prog_13_method_1_code y11_init.cls 1 none 1 none zf Kf hf) (O : Oi Γ 52 54371) {o : Nat} {K : Ly} {h : Hp} (hk : K o = some (.inl 23)) (kk : Go Γ (9, 4626) 77 [(0, .ref o)] [] (o + 10) (kS K (o + 9) (.inr (0, 122))) (sR (zr h (o + 9)) o 18 (some (o + 9)))) : Go Γ (8, 4504) 69 [(0, .ref o)] [] (o + 9) K h := by
  refine g_aload_n (n := 0) (sz := o + 9) X (by decide +kernel) 0 rfl ?_
  refine g_bipush (n := 122) (x := (122 : Int32)) (sz := o + 9) X (by decide +kernel) (by decide) ?_
  refine i_newa (aty := .int) (t := 0) (n := 122) (sz := o + 9) X O (by decide +kernel) (by decide) rfl ac_0 rfl (by decide) (by decide) (Nat.le_of_ble_eq_true rfl) (Nat.le_of_ble_eq_true rfl) (Nat.le_of_ble_eq_true rfl) ?_
  exact i_putF (h' := sR (zr h (o + 9)) o 18 (some (o + 9))) (ty := .array (.int)) (sz := o + 10) X O (by decide +kernel) fl11_35r.1 (fun C T N h => by cases h; exact ⟨rfl, by decide +kernel⟩) (fun C T N h => by cases h; rfl) rfl rfl (kS_ne hk (by omega)) (by rw [fl11_35r.2]; exact Wr.r (x := some (o + 9))) kk
set_option maxRecDepth 100000 in
theorem im_10 {Γ : CT} {sp : Sp} {zf : Nat} {Kf : Ly} {hf : Hp} (X : Ok Γ sp prog_13_method_1_code y11_init.cls 1 none 1 none zf Kf hf) (O : Oi Γ 52 54371) {o : Nat} {K : Ly} {h : Hp} (hk : K o = some (.inl 23)) (kk : Go Γ (10, 4630) 84 [(0, .ref o)] [] (o + 11) (kS K (o + 10) (.inr (0, 4))) (sR (zr h (o + 10)) o 19 (some (o + 10)))) : Go Γ (9, 4626) 77 [(0, .ref o)] [] (o + 10) K h := by
  refine g_aload_n (n := 0) (sz := o + 10) X (by decide +kernel) 0 rfl ?_
  refine g_iconst (n := 4) (x := (4 : Int32)) (sz := o + 10) X (by decide +kernel) (by decide) ?_
  refine i_newa (aty := .int) (t := 0) (n := 4) (sz := o + 10) X O (by decide +kernel) (by decide) rfl ac_0 rfl (by decide) (by decide) (Nat.le_of_ble_eq_true rfl) (Nat.le_of_ble_eq_true rfl) (Nat.le_of_ble_eq_true rfl) ?_
  exact i_putF (h' := sR (zr h (o + 10)) o 19 (some (o + 10))) (ty := .array (.int)) (sz := o + 11) X O (by decide +kernel) fl11_38r.1 (fun C T N h => by cases h; exact ⟨rfl, by decide +kernel⟩) (fun C T N h => by cases h; rfl) rfl rfl (kS_ne hk (by omega)) (by rw [fl11_38r.2]; exact Wr.r (x := some (o + 10))) kk
set_option maxRecDepth 100000 in
theorem im_11 {Γ : CT} {sp : Sp} {zf : Nat} {Kf : Ly} {hf : Hp} (X : Ok Γ sp prog_13_method_1_code y11_init.cls 1 none 1 none zf Kf hf) (O : Oi Γ 52 54371) {o : Nat} {K : Ly} {h : Hp} (hk : K o = some (.inl 23)) (kk : Go Γ (11, 4666) 92 [(0, .ref o)] [] (o + 12) (kS K (o + 11) (.inr (0, 36))) (sR (zr h (o + 11)) o 25 (some (o + 11)))) : Go Γ (10, 4630) 84 [(0, .ref o)] [] (o + 11) K h := by
  refine g_aload_n (n := 0) (sz := o + 11) X (by decide +kernel) 0 rfl ?_
  refine g_bipush (n := 36) (x := (36 : Int32)) (sz := o + 11) X (by decide +kernel) (by decide) ?_
  refine i_newa (aty := .int) (t := 0) (n := 36) (sz := o + 11) X O (by decide +kernel) (by decide) rfl ac_0 rfl (by decide) (by decide) (Nat.le_of_ble_eq_true rfl) (Nat.le_of_ble_eq_true rfl) (Nat.le_of_ble_eq_true rfl) ?_
  exact i_putF (h' := sR (zr h (o + 11)) o 25 (some (o + 11))) (ty := .array (.int)) (sz := o + 12) X O (by decide +kernel) fl11_41r.1 (fun C T N h => by cases h; exact ⟨rfl, by decide +kernel⟩) (fun C T N h => by cases h; rfl) rfl rfl (kS_ne hk (by omega)) (by rw [fl11_41r.2]; exact Wr.r (x := some (o + 11))) kk
set_option maxRecDepth 100000 in
theorem im_12 {Γ : CT} {sp : Sp} {zf : Nat} {Kf : Ly} {hf : Hp} (X : Ok Γ sp prog_13_method_1_code y11_init.cls 1 none 1 none zf Kf hf) (O : Oi Γ 52 54371) {o : Nat} {K : Ly} {h : Hp} (hk : K o = some (.inl 23)) (kk : Go Γ (12, 4672) 100 [(0, .ref o)] [] (o + 13) (kS K (o + 12) (.inr (3, 6))) (sR (zr h (o + 12)) o 28 (some (o + 12)))) : Go Γ (11, 4666) 92 [(0, .ref o)] [] (o + 12) K h := by
  refine g_aload_n (n := 0) (sz := o + 12) X (by decide +kernel) 0 rfl ?_
  refine g_bipush (n := 6) (x := (6 : Int32)) (sz := o + 12) X (by decide +kernel) (by decide) ?_
  refine i_newa (aty := .long) (t := 3) (n := 6) (sz := o + 12) X O (by decide +kernel) (by decide) rfl ac_3 rfl (by decide) (by decide) (Nat.le_of_ble_eq_true rfl) (Nat.le_of_ble_eq_true rfl) (Nat.le_of_ble_eq_true rfl) ?_
  exact i_putF (h' := sR (zr h (o + 12)) o 28 (some (o + 12))) (ty := .array (.long)) (sz := o + 13) X O (by decide +kernel) fl11_44r.1 (fun C T N h => by cases h; exact ⟨rfl, by decide +kernel⟩) (fun C T N h => by cases h; rfl) rfl rfl (kS_ne hk (by omega)) (by rw [fl11_44r.2]; exact Wr.r (x := some (o + 12))) kk
set_option maxRecDepth 100000 in
theorem im_13 {Γ : CT} {sp : Sp} {zf : Nat} {Kf : Ly} {hf : Hp} (X : Ok Γ sp prog_13_method_1_code y11_init.cls 1 none 1 none zf Kf hf) (O : Oi Γ 52 54371) {o : Nat} {K : Ly} {h : Hp} (hk : K o = some (.inl 23)) (kk : Go Γ (13, 4708) 108 [(0, .ref o)] [] (o + 14) (kS K (o + 13) (.inr (0, 36))) (sR (zr h (o + 13)) o 29 (some (o + 13)))) : Go Γ (12, 4672) 100 [(0, .ref o)] [] (o + 13) K h := by
  refine g_aload_n (n := 0) (sz := o + 13) X (by decide +kernel) 0 rfl ?_
  refine g_bipush (n := 36) (x := (36 : Int32)) (sz := o + 13) X (by decide +kernel) (by decide) ?_
  refine i_newa (aty := .int) (t := 0) (n := 36) (sz := o + 13) X O (by decide +kernel) (by decide) rfl ac_0 rfl (by decide) (by decide) (Nat.le_of_ble_eq_true rfl) (Nat.le_of_ble_eq_true rfl) (Nat.le_of_ble_eq_true rfl) ?_
  exact i_putF (h' := sR (zr h (o + 13)) o 29 (some (o + 13))) (ty := .array (.int)) (sz := o + 14) X O (by decide +kernel) fl11_48r.1 (fun C T N h => by cases h; exact ⟨rfl, by decide +kernel⟩) (fun C T N h => by cases h; rfl) rfl rfl (kS_ne hk (by omega)) (by rw [fl11_48r.2]; exact Wr.r (x := some (o + 13))) kk
set_option maxRecDepth 100000 in
theorem im_14 {Γ : CT} {sp : Sp} {zf : Nat} {Kf : Ly} {hf : Hp} (X : Ok Γ sp prog_13_method_1_code y11_init.cls 1 none 1 none zf Kf hf) (O : Oi Γ 52 54371) {o : Nat} {K : Ly} {h : Hp} (hk : K o = some (.inl 23)) (kk : Go Γ (14, 4714) 116 [(0, .ref o)] [] (o + 15) (kS K (o + 14) (.inr (0, 6))) (sR (zr h (o + 14)) o 30 (some (o + 14)))) : Go Γ (13, 4708) 108 [(0, .ref o)] [] (o + 14) K h := by
  refine g_aload_n (n := 0) (sz := o + 14) X (by decide +kernel) 0 rfl ?_
  refine g_bipush (n := 6) (x := (6 : Int32)) (sz := o + 14) X (by decide +kernel) (by decide) ?_
  refine i_newa (aty := .int) (t := 0) (n := 6) (sz := o + 14) X O (by decide +kernel) (by decide) rfl ac_0 rfl (by decide) (by decide) (Nat.le_of_ble_eq_true rfl) (Nat.le_of_ble_eq_true rfl) (Nat.le_of_ble_eq_true rfl) ?_
  exact i_putF (h' := sR (zr h (o + 14)) o 30 (some (o + 14))) (ty := .array (.int)) (sz := o + 15) X O (by decide +kernel) fl11_51r.1 (fun C T N h => by cases h; exact ⟨rfl, by decide +kernel⟩) (fun C T N h => by cases h; rfl) rfl rfl (kS_ne hk (by omega)) (by rw [fl11_51r.2]; exact Wr.r (x := some (o + 14))) kk
set_option maxRecDepth 100000 in
theorem im_15 {Γ : CT} {sp : Sp} {zf : Nat} {Kf : Ly} {hf : Hp} (X : Ok Γ sp prog_13_method_1_code y11_init.cls 1 none 1 none zf Kf hf) (O : Oi Γ 52 54371) {o : Nat} {K : Ly} {h : Hp} (hk : K o = some (.inl 23)) (kk : Go Γ (15, 4750) 124 [(0, .ref o)] [] (o + 16) (kS K (o + 15) (.inr (0, 36))) (sR (zr h (o + 15)) o 31 (some (o + 15)))) : Go Γ (14, 4714) 116 [(0, .ref o)] [] (o + 15) K h := by
  refine g_aload_n (n := 0) (sz := o + 15) X (by decide +kernel) 0 rfl ?_
  refine g_bipush (n := 36) (x := (36 : Int32)) (sz := o + 15) X (by decide +kernel) (by decide) ?_
  refine i_newa (aty := .int) (t := 0) (n := 36) (sz := o + 15) X O (by decide +kernel) (by decide) rfl ac_0 rfl (by decide) (by decide) (Nat.le_of_ble_eq_true rfl) (Nat.le_of_ble_eq_true rfl) (Nat.le_of_ble_eq_true rfl) ?_
  exact i_putF (h' := sR (zr h (o + 15)) o 31 (some (o + 15))) (ty := .array (.int)) (sz := o + 16) X O (by decide +kernel) fl11_54r.1 (fun C T N h => by cases h; exact ⟨rfl, by decide +kernel⟩) (fun C T N h => by cases h; rfl) rfl rfl (kS_ne hk (by omega)) (by rw [fl11_54r.2]; exact Wr.r (x := some (o + 15))) kk
set_option maxRecDepth 100000 in
theorem im_16 {Γ : CT} {sp : Sp} {zf : Nat} {Kf : Ly} {hf : Hp} (X : Ok Γ sp prog_13_method_1_code y11_init.cls 1 none 1 none zf Kf hf) (O : Oi Γ 52 54371) {o : Nat} {K : Ly} {h : Hp} (hk : K o = some (.inl 23)) (kk : Go Γ (16, 4786) 132 [(0, .ref o)] [] (o + 17) (kS K (o + 16) (.inr (0, 36))) (sR (zr h (o + 16)) o 32 (some (o + 16)))) : Go Γ (15, 4750) 124 [(0, .ref o)] [] (o + 16) K h := by
  refine g_aload_n (n := 0) (sz := o + 16) X (by decide +kernel) 0 rfl ?_
  refine g_bipush (n := 36) (x := (36 : Int32)) (sz := o + 16) X (by decide +kernel) (by decide) ?_
  refine i_newa (aty := .int) (t := 0) (n := 36) (sz := o + 16) X O (by decide +kernel) (by decide) rfl ac_0 rfl (by decide) (by decide) (Nat.le_of_ble_eq_true rfl) (Nat.le_of_ble_eq_true rfl) (Nat.le_of_ble_eq_true rfl) ?_
  exact i_putF (h' := sR (zr h (o + 16)) o 32 (some (o + 16))) (ty := .array (.int)) (sz := o + 17) X O (by decide +kernel) fl11_57r.1 (fun C T N h => by cases h; exact ⟨rfl, by decide +kernel⟩) (fun C T N h => by cases h; rfl) rfl rfl (kS_ne hk (by omega)) (by rw [fl11_57r.2]; exact Wr.r (x := some (o + 16))) kk
set_option maxRecDepth 100000 in
theorem im_17 {Γ : CT} {sp : Sp} {zf : Nat} {Kf : Ly} {hf : Hp} (X : Ok Γ sp prog_13_method_1_code y11_init.cls 1 none 1 none zf Kf hf) (O : Oi Γ 52 54371) {o : Nat} {K : Ly} {h : Hp} (hk : K o = some (.inl 23)) (kk : Go Γ (17, 4822) 140 [(0, .ref o)] [] (o + 18) (kS K (o + 17) (.inr (0, 36))) (sR (zr h (o + 17)) o 33 (some (o + 17)))) : Go Γ (16, 4786) 132 [(0, .ref o)] [] (o + 17) K h := by
  refine g_aload_n (n := 0) (sz := o + 17) X (by decide +kernel) 0 rfl ?_
  refine g_bipush (n := 36) (x := (36 : Int32)) (sz := o + 17) X (by decide +kernel) (by decide) ?_
  refine i_newa (aty := .int) (t := 0) (n := 36) (sz := o + 17) X O (by decide +kernel) (by decide) rfl ac_0 rfl (by decide) (by decide) (Nat.le_of_ble_eq_true rfl) (Nat.le_of_ble_eq_true rfl) (Nat.le_of_ble_eq_true rfl) ?_
  exact i_putF (h' := sR (zr h (o + 17)) o 33 (some (o + 17))) (ty := .array (.int)) (sz := o + 18) X O (by decide +kernel) fl11_60r.1 (fun C T N h => by cases h; exact ⟨rfl, by decide +kernel⟩) (fun C T N h => by cases h; rfl) rfl rfl (kS_ne hk (by omega)) (by rw [fl11_60r.2]; exact Wr.r (x := some (o + 17))) kk
set_option maxRecDepth 100000 in
theorem im_18 {Γ : CT} {sp : Sp} {zf : Nat} {Kf : Ly} {hf : Hp} (X : Ok Γ sp prog_13_method_1_code y11_init.cls 1 none 1 none zf Kf hf) (O : Oi Γ 52 54371) {o : Nat} {K : Ly} {h : Hp} (hk : K o = some (.inl 23)) (kk : Go Γ (18, 4828) 148 [(0, .ref o)] [] (o + 19) (kS K (o + 18) (.inr (0, 6))) (sR (zr h (o + 18)) o 34 (some (o + 18)))) : Go Γ (17, 4822) 140 [(0, .ref o)] [] (o + 18) K h := by
  refine g_aload_n (n := 0) (sz := o + 18) X (by decide +kernel) 0 rfl ?_
  refine g_bipush (n := 6) (x := (6 : Int32)) (sz := o + 18) X (by decide +kernel) (by decide) ?_
  refine i_newa (aty := .int) (t := 0) (n := 6) (sz := o + 18) X O (by decide +kernel) (by decide) rfl ac_0 rfl (by decide) (by decide) (Nat.le_of_ble_eq_true rfl) (Nat.le_of_ble_eq_true rfl) (Nat.le_of_ble_eq_true rfl) ?_
  exact i_putF (h' := sR (zr h (o + 18)) o 34 (some (o + 18))) (ty := .array (.int)) (sz := o + 19) X O (by decide +kernel) fl11_63r.1 (fun C T N h => by cases h; exact ⟨rfl, by decide +kernel⟩) (fun C T N h => by cases h; rfl) rfl rfl (kS_ne hk (by omega)) (by rw [fl11_63r.2]; exact Wr.r (x := some (o + 18))) kk
set_option maxRecDepth 100000 in
theorem im_19 {Γ : CT} {sp : Sp} {zf : Nat} {Kf : Ly} {hf : Hp} (X : Ok Γ sp prog_13_method_1_code y11_init.cls 1 none 1 none zf Kf hf) (O : Oi Γ 52 54371) {o : Nat} {K : Ly} {h : Hp} (hk : K o = some (.inl 23)) (kk : Go Γ (19, 5212) 157 [(0, .ref o)] [] (o + 20) (kS K (o + 19) (.inr (0, 384))) (sR (zr h (o + 19)) o 35 (some (o + 19)))) : Go Γ (18, 4828) 148 [(0, .ref o)] [] (o + 19) K h := by
  refine g_aload_n (n := 0) (sz := o + 19) X (by decide +kernel) 0 rfl ?_
  refine g_sipush (n := 384) (x := (384 : Int32)) (sz := o + 19) X (by decide +kernel) (by decide) ?_
  refine i_newa (aty := .int) (t := 0) (n := 384) (sz := o + 19) X O (by decide +kernel) (by decide) rfl ac_0 rfl (by decide) (by decide) (Nat.le_of_ble_eq_true rfl) (Nat.le_of_ble_eq_true rfl) (Nat.le_of_ble_eq_true rfl) ?_
  exact i_putF (h' := sR (zr h (o + 19)) o 35 (some (o + 19))) (ty := .array (.int)) (sz := o + 20) X O (by decide +kernel) fl11_66r.1 (fun C T N h => by cases h; exact ⟨rfl, by decide +kernel⟩) (fun C T N h => by cases h; rfl) rfl rfl (kS_ne hk (by omega)) (by rw [fl11_66r.2]; exact Wr.r (x := some (o + 19))) kk
set_option maxRecDepth 100000 in
theorem im_20 {Γ : CT} {sp : Sp} {zf : Nat} {Kf : Ly} {hf : Hp} (X : Ok Γ sp prog_13_method_1_code y11_init.cls 1 none 1 none zf Kf hf) (O : Oi Γ 52 54371) {o : Nat} {K : Ly} {h : Hp} (hk : K o = some (.inl 23)) (kk : Go Γ (20, 5596) 166 [(0, .ref o)] [] (o + 21) (kS K (o + 20) (.inr (0, 384))) (sR (zr h (o + 20)) o 36 (some (o + 20)))) : Go Γ (19, 5212) 157 [(0, .ref o)] [] (o + 20) K h := by
  refine g_aload_n (n := 0) (sz := o + 20) X (by decide +kernel) 0 rfl ?_
  refine g_sipush (n := 384) (x := (384 : Int32)) (sz := o + 20) X (by decide +kernel) (by decide) ?_
  refine i_newa (aty := .int) (t := 0) (n := 384) (sz := o + 20) X O (by decide +kernel) (by decide) rfl ac_0 rfl (by decide) (by decide) (Nat.le_of_ble_eq_true rfl) (Nat.le_of_ble_eq_true rfl) (Nat.le_of_ble_eq_true rfl) ?_
  exact i_putF (h' := sR (zr h (o + 20)) o 36 (some (o + 20))) (ty := .array (.int)) (sz := o + 21) X O (by decide +kernel) fl11_69r.1 (fun C T N h => by cases h; exact ⟨rfl, by decide +kernel⟩) (fun C T N h => by cases h; rfl) rfl rfl (kS_ne hk (by omega)) (by rw [fl11_69r.2]; exact Wr.r (x := some (o + 20))) kk
set_option maxRecDepth 100000 in
theorem im_21 {Γ : CT} {sp : Sp} {zf : Nat} {Kf : Ly} {hf : Hp} (X : Ok Γ sp prog_13_method_1_code y11_init.cls 1 none 1 none zf Kf hf) (O : Oi Γ 52 54371) {o : Nat} {K : Ly} {h : Hp} (hk : K o = some (.inl 23)) (kk : Go Γ (21, 5980) 175 [(0, .ref o)] [] (o + 22) (kS K (o + 21) (.inr (0, 384))) (sR (zr h (o + 21)) o 37 (some (o + 21)))) : Go Γ (20, 5596) 166 [(0, .ref o)] [] (o + 21) K h := by
  refine g_aload_n (n := 0) (sz := o + 21) X (by decide +kernel) 0 rfl ?_
  refine g_sipush (n := 384) (x := (384 : Int32)) (sz := o + 21) X (by decide +kernel) (by decide) ?_
  refine i_newa (aty := .int) (t := 0) (n := 384) (sz := o + 21) X O (by decide +kernel) (by decide) rfl ac_0 rfl (by decide) (by decide) (Nat.le_of_ble_eq_true rfl) (Nat.le_of_ble_eq_true rfl) (Nat.le_of_ble_eq_true rfl) ?_
  exact i_putF (h' := sR (zr h (o + 21)) o 37 (some (o + 21))) (ty := .array (.int)) (sz := o + 22) X O (by decide +kernel) fl11_72r.1 (fun C T N h => by cases h; exact ⟨rfl, by decide +kernel⟩) (fun C T N h => by cases h; rfl) rfl rfl (kS_ne hk (by omega)) (by rw [fl11_72r.2]; exact Wr.r (x := some (o + 21))) kk
set_option maxRecDepth 100000 in
theorem im_22 {Γ : CT} {sp : Sp} {zf : Nat} {Kf : Ly} {hf : Hp} (X : Ok Γ sp prog_13_method_1_code y11_init.cls 1 none 1 none zf Kf hf) (O : Oi Γ 52 54371) {o : Nat} {K : Ly} {h : Hp} (hk : K o = some (.inl 23)) (kk : Go Γ (22, 6364) 184 [(0, .ref o)] [] (o + 23) (kS K (o + 22) (.inr (3, 384))) (sR (zr h (o + 22)) o 38 (some (o + 22)))) : Go Γ (21, 5980) 175 [(0, .ref o)] [] (o + 22) K h := by
  refine g_aload_n (n := 0) (sz := o + 22) X (by decide +kernel) 0 rfl ?_
  refine g_sipush (n := 384) (x := (384 : Int32)) (sz := o + 22) X (by decide +kernel) (by decide) ?_
  refine i_newa (aty := .long) (t := 3) (n := 384) (sz := o + 22) X O (by decide +kernel) (by decide) rfl ac_3 rfl (by decide) (by decide) (Nat.le_of_ble_eq_true rfl) (Nat.le_of_ble_eq_true rfl) (Nat.le_of_ble_eq_true rfl) ?_
  exact i_putF (h' := sR (zr h (o + 22)) o 38 (some (o + 22))) (ty := .array (.long)) (sz := o + 23) X O (by decide +kernel) fl11_75r.1 (fun C T N h => by cases h; exact ⟨rfl, by decide +kernel⟩) (fun C T N h => by cases h; rfl) rfl rfl (kS_ne hk (by omega)) (by rw [fl11_75r.2]; exact Wr.r (x := some (o + 22))) kk
set_option maxRecDepth 100000 in
theorem im_23 {Γ : CT} {sp : Sp} {zf : Nat} {Kf : Ly} {hf : Hp} (X : Ok Γ sp prog_13_method_1_code y11_init.cls 1 none 1 none zf Kf hf) (O : Oi Γ 52 54371) {o : Nat} {K : Ly} {h : Hp} (hk : K o = some (.inl 23)) (kk : Go Γ (23, 6748) 193 [(0, .ref o)] [] (o + 24) (kS K (o + 23) (.inr (3, 384))) (sR (zr h (o + 23)) o 39 (some (o + 23)))) : Go Γ (22, 6364) 184 [(0, .ref o)] [] (o + 23) K h := by
  refine g_aload_n (n := 0) (sz := o + 23) X (by decide +kernel) 0 rfl ?_
  refine g_sipush (n := 384) (x := (384 : Int32)) (sz := o + 23) X (by decide +kernel) (by decide) ?_
  refine i_newa (aty := .long) (t := 3) (n := 384) (sz := o + 23) X O (by decide +kernel) (by decide) rfl ac_3 rfl (by decide) (by decide) (Nat.le_of_ble_eq_true rfl) (Nat.le_of_ble_eq_true rfl) (Nat.le_of_ble_eq_true rfl) ?_
  exact i_putF (h' := sR (zr h (o + 23)) o 39 (some (o + 23))) (ty := .array (.long)) (sz := o + 24) X O (by decide +kernel) fl11_78r.1 (fun C T N h => by cases h; exact ⟨rfl, by decide +kernel⟩) (fun C T N h => by cases h; rfl) rfl rfl (kS_ne hk (by omega)) (by rw [fl11_78r.2]; exact Wr.r (x := some (o + 23))) kk
set_option maxRecDepth 100000 in
theorem im_24 {Γ : CT} {sp : Sp} {zf : Nat} {Kf : Ly} {hf : Hp} (X : Ok Γ sp prog_13_method_1_code y11_init.cls 1 none 1 none zf Kf hf) (O : Oi Γ 52 54371) {o : Nat} {K : Ly} {h : Hp} (hk : K o = some (.inl 23)) (kk : Go Γ (24, 7132) 202 [(0, .ref o)] [] (o + 25) (kS K (o + 24) (.inr (0, 384))) (sR (zr h (o + 24)) o 40 (some (o + 24)))) : Go Γ (23, 6748) 193 [(0, .ref o)] [] (o + 24) K h := by
  refine g_aload_n (n := 0) (sz := o + 24) X (by decide +kernel) 0 rfl ?_
  refine g_sipush (n := 384) (x := (384 : Int32)) (sz := o + 24) X (by decide +kernel) (by decide) ?_
  refine i_newa (aty := .int) (t := 0) (n := 384) (sz := o + 24) X O (by decide +kernel) (by decide) rfl ac_0 rfl (by decide) (by decide) (Nat.le_of_ble_eq_true rfl) (Nat.le_of_ble_eq_true rfl) (Nat.le_of_ble_eq_true rfl) ?_
  exact i_putF (h' := sR (zr h (o + 24)) o 40 (some (o + 24))) (ty := .array (.int)) (sz := o + 25) X O (by decide +kernel) fl11_81r.1 (fun C T N h => by cases h; exact ⟨rfl, by decide +kernel⟩) (fun C T N h => by cases h; rfl) rfl rfl (kS_ne hk (by omega)) (by rw [fl11_81r.2]; exact Wr.r (x := some (o + 24))) kk
set_option maxRecDepth 100000 in
theorem im_25 {Γ : CT} {sp : Sp} {zf : Nat} {Kf : Ly} {hf : Hp} (X : Ok Γ sp prog_13_method_1_code y11_init.cls 1 none 1 none zf Kf hf) (O : Oi Γ 52 54371) {o : Nat} {K : Ly} {h : Hp} (hk : K o = some (.inl 23)) (kk : Go Γ (25, 7516) 211 [(0, .ref o)] [] (o + 26) (kS K (o + 25) (.inr (0, 384))) (sR (zr h (o + 25)) o 41 (some (o + 25)))) : Go Γ (24, 7132) 202 [(0, .ref o)] [] (o + 25) K h := by
  refine g_aload_n (n := 0) (sz := o + 25) X (by decide +kernel) 0 rfl ?_
  refine g_sipush (n := 384) (x := (384 : Int32)) (sz := o + 25) X (by decide +kernel) (by decide) ?_
  refine i_newa (aty := .int) (t := 0) (n := 384) (sz := o + 25) X O (by decide +kernel) (by decide) rfl ac_0 rfl (by decide) (by decide) (Nat.le_of_ble_eq_true rfl) (Nat.le_of_ble_eq_true rfl) (Nat.le_of_ble_eq_true rfl) ?_
  exact i_putF (h' := sR (zr h (o + 25)) o 41 (some (o + 25))) (ty := .array (.int)) (sz := o + 26) X O (by decide +kernel) fl11_84r.1 (fun C T N h => by cases h; exact ⟨rfl, by decide +kernel⟩) (fun C T N h => by cases h; rfl) rfl rfl (kS_ne hk (by omega)) (by rw [fl11_84r.2]; exact Wr.r (x := some (o + 25))) kk
set_option maxRecDepth 100000 in
theorem im_26 {Γ : CT} {sp : Sp} {zf : Nat} {Kf : Ly} {hf : Hp} (X : Ok Γ sp prog_13_method_1_code y11_init.cls 1 none 1 none zf Kf hf) (O : Oi Γ 52 54371) {o : Nat} {K : Ly} {h : Hp} (hk : K o = some (.inl 23)) (kk : Go Γ (26, 7900) 220 [(0, .ref o)] [] (o + 27) (kS K (o + 26) (.inr (0, 384))) (sR (zr h (o + 26)) o 42 (some (o + 26)))) : Go Γ (25, 7516) 211 [(0, .ref o)] [] (o + 26) K h := by
  refine g_aload_n (n := 0) (sz := o + 26) X (by decide +kernel) 0 rfl ?_
  refine g_sipush (n := 384) (x := (384 : Int32)) (sz := o + 26) X (by decide +kernel) (by decide) ?_
  refine i_newa (aty := .int) (t := 0) (n := 384) (sz := o + 26) X O (by decide +kernel) (by decide) rfl ac_0 rfl (by decide) (by decide) (Nat.le_of_ble_eq_true rfl) (Nat.le_of_ble_eq_true rfl) (Nat.le_of_ble_eq_true rfl) ?_
  exact i_putF (h' := sR (zr h (o + 26)) o 42 (some (o + 26))) (ty := .array (.int)) (sz := o + 27) X O (by decide +kernel) fl11_87r.1 (fun C T N h => by cases h; exact ⟨rfl, by decide +kernel⟩) (fun C T N h => by cases h; rfl) rfl rfl (kS_ne hk (by omega)) (by rw [fl11_87r.2]; exact Wr.r (x := some (o + 26))) kk
set_option maxRecDepth 100000 in
theorem im_27 {Γ : CT} {sp : Sp} {zf : Nat} {Kf : Ly} {hf : Hp} (X : Ok Γ sp prog_13_method_1_code y11_init.cls 1 none 1 none zf Kf hf) (O : Oi Γ 52 54371) {o : Nat} {K : Ly} {h : Hp} (hk : K o = some (.inl 23)) (kk : Go Γ (27, 8284) 229 [(0, .ref o)] [] (o + 28) (kS K (o + 27) (.inr (0, 384))) (sR (zr h (o + 27)) o 43 (some (o + 27)))) : Go Γ (26, 7900) 220 [(0, .ref o)] [] (o + 27) K h := by
  refine g_aload_n (n := 0) (sz := o + 27) X (by decide +kernel) 0 rfl ?_
  refine g_sipush (n := 384) (x := (384 : Int32)) (sz := o + 27) X (by decide +kernel) (by decide) ?_
  refine i_newa (aty := .int) (t := 0) (n := 384) (sz := o + 27) X O (by decide +kernel) (by decide) rfl ac_0 rfl (by decide) (by decide) (Nat.le_of_ble_eq_true rfl) (Nat.le_of_ble_eq_true rfl) (Nat.le_of_ble_eq_true rfl) ?_
  exact i_putF (h' := sR (zr h (o + 27)) o 43 (some (o + 27))) (ty := .array (.int)) (sz := o + 28) X O (by decide +kernel) fl11_90r.1 (fun C T N h => by cases h; exact ⟨rfl, by decide +kernel⟩) (fun C T N h => by cases h; rfl) rfl rfl (kS_ne hk (by omega)) (by rw [fl11_90r.2]; exact Wr.r (x := some (o + 27))) kk
set_option maxRecDepth 100000 in
theorem im_28 {Γ : CT} {sp : Sp} {zf : Nat} {Kf : Ly} {hf : Hp} (X : Ok Γ sp prog_13_method_1_code y11_init.cls 1 none 1 none zf Kf hf) (O : Oi Γ 52 54371) {o : Nat} {K : Ly} {h : Hp} (hk : K o = some (.inl 23)) (kk : Go Γ (28, 8668) 238 [(0, .ref o)] [] (o + 29) (kS K (o + 28) (.inr (0, 384))) (sR (zr h (o + 28)) o 44 (some (o + 28)))) : Go Γ (27, 8284) 229 [(0, .ref o)] [] (o + 28) K h := by
  refine g_aload_n (n := 0) (sz := o + 28) X (by decide +kernel) 0 rfl ?_
  refine g_sipush (n := 384) (x := (384 : Int32)) (sz := o + 28) X (by decide +kernel) (by decide) ?_
  refine i_newa (aty := .int) (t := 0) (n := 384) (sz := o + 28) X O (by decide +kernel) (by decide) rfl ac_0 rfl (by decide) (by decide) (Nat.le_of_ble_eq_true rfl) (Nat.le_of_ble_eq_true rfl) (Nat.le_of_ble_eq_true rfl) ?_
  exact i_putF (h' := sR (zr h (o + 28)) o 44 (some (o + 28))) (ty := .array (.int)) (sz := o + 29) X O (by decide +kernel) fl11_93r.1 (fun C T N h => by cases h; exact ⟨rfl, by decide +kernel⟩) (fun C T N h => by cases h; rfl) rfl rfl (kS_ne hk (by omega)) (by rw [fl11_93r.2]; exact Wr.r (x := some (o + 28))) kk
set_option maxRecDepth 100000 in
theorem im_29 {Γ : CT} {sp : Sp} {zf : Nat} {Kf : Ly} {hf : Hp} (X : Ok Γ sp prog_13_method_1_code y11_init.cls 1 none 1 none zf Kf hf) (O : Oi Γ 52 54371) {o : Nat} {K : Ly} {h : Hp} (hk : K o = some (.inl 23)) (kk : Go Γ (29, 12764) 247 [(0, .ref o)] [] (o + 30) (kS K (o + 29) (.inr (0, 4096))) (sR (zr h (o + 29)) o 46 (some (o + 29)))) : Go Γ (28, 8668) 238 [(0, .ref o)] [] (o + 29) K h := by
  refine g_aload_n (n := 0) (sz := o + 29) X (by decide +kernel) 0 rfl ?_
  refine g_sipush (n := 4096) (x := (4096 : Int32)) (sz := o + 29) X (by decide +kernel) (by decide) ?_
  refine i_newa (aty := .int) (t := 0) (n := 4096) (sz := o + 29) X O (by decide +kernel) (by decide) rfl ac_0 rfl (by decide) (by decide) (Nat.le_of_ble_eq_true rfl) (Nat.le_of_ble_eq_true rfl) (Nat.le_of_ble_eq_true rfl) ?_
  exact i_putF (h' := sR (zr h (o + 29)) o 46 (some (o + 29))) (ty := .array (.int)) (sz := o + 30) X O (by decide +kernel) fl11_96r.1 (fun C T N h => by cases h; exact ⟨rfl, by decide +kernel⟩) (fun C T N h => by cases h; rfl) rfl rfl (kS_ne hk (by omega)) (by rw [fl11_96r.2]; exact Wr.r (x := some (o + 29))) kk
set_option maxRecDepth 100000 in
theorem im_30 {Γ : CT} {sp : Sp} {zf : Nat} {Kf : Ly} {hf : Hp} (X : Ok Γ sp prog_13_method_1_code y11_init.cls 1 none 1 none zf Kf hf) (O : Oi Γ 52 54371) {o : Nat} {K : Ly} {h : Hp} (hk : K o = some (.inl 23)) (kk : Go Γ (30, 16860) 256 [(0, .ref o)] [] (o + 31) (kS K (o + 30) (.inr (0, 4096))) (sR (zr h (o + 30)) o 47 (some (o + 30)))) : Go Γ (29, 12764) 247 [(0, .ref o)] [] (o + 30) K h := by
  refine g_aload_n (n := 0) (sz := o + 30) X (by decide +kernel) 0 rfl ?_
  refine g_sipush (n := 4096) (x := (4096 : Int32)) (sz := o + 30) X (by decide +kernel) (by decide) ?_
  refine i_newa (aty := .int) (t := 0) (n := 4096) (sz := o + 30) X O (by decide +kernel) (by decide) rfl ac_0 rfl (by decide) (by decide) (Nat.le_of_ble_eq_true rfl) (Nat.le_of_ble_eq_true rfl) (Nat.le_of_ble_eq_true rfl) ?_
  exact i_putF (h' := sR (zr h (o + 30)) o 47 (some (o + 30))) (ty := .array (.int)) (sz := o + 31) X O (by decide +kernel) fl11_99r.1 (fun C T N h => by cases h; exact ⟨rfl, by decide +kernel⟩) (fun C T N h => by cases h; rfl) rfl rfl (kS_ne hk (by omega)) (by rw [fl11_99r.2]; exact Wr.r (x := some (o + 30))) kk
set_option maxRecDepth 100000 in
theorem im_31 {Γ : CT} {sp : Sp} {zf : Nat} {Kf : Ly} {hf : Hp} (X : Ok Γ sp prog_13_method_1_code y11_init.cls 1 none 1 none zf Kf hf) (O : Oi Γ 52 54371) {o : Nat} {K : Ly} {h : Hp} (hk : K o = some (.inl 23)) (kk : Go Γ (31, 20956) 265 [(0, .ref o)] [] (o + 32) (kS K (o + 31) (.inr (0, 4096))) (sR (zr h (o + 31)) o 48 (some (o + 31)))) : Go Γ (30, 16860) 256 [(0, .ref o)] [] (o + 31) K h := by
  refine g_aload_n (n := 0) (sz := o + 31) X (by decide +kernel) 0 rfl ?_
  refine g_sipush (n := 4096) (x := (4096 : Int32)) (sz := o + 31) X (by decide +kernel) (by decide) ?_
  refine i_newa (aty := .int) (t := 0) (n := 4096) (sz := o + 31) X O (by decide +kernel) (by decide) rfl ac_0 rfl (by decide) (by decide) (Nat.le_of_ble_eq_true rfl) (Nat.le_of_ble_eq_true rfl) (Nat.le_of_ble_eq_true rfl) ?_
  exact i_putF (h' := sR (zr h (o + 31)) o 48 (some (o + 31))) (ty := .array (.int)) (sz := o + 32) X O (by decide +kernel) fl11_102r.1 (fun C T N h => by cases h; exact ⟨rfl, by decide +kernel⟩) (fun C T N h => by cases h; rfl) rfl rfl (kS_ne hk (by omega)) (by rw [fl11_102r.2]; exact Wr.r (x := some (o + 31))) kk
set_option maxRecDepth 100000 in
theorem im_32 {Γ : CT} {sp : Sp} {zf : Nat} {Kf : Ly} {hf : Hp} (X : Ok Γ sp prog_13_method_1_code y11_init.cls 1 none 1 none zf Kf hf) (O : Oi Γ 52 54371) {o : Nat} {K : Ly} {h : Hp} (hk : K o = some (.inl 23)) (kk : Go Γ (32, 25052) 274 [(0, .ref o)] [] (o + 33) (kS K (o + 32) (.inr (0, 4096))) (sR (zr h (o + 32)) o 49 (some (o + 32)))) : Go Γ (31, 20956) 265 [(0, .ref o)] [] (o + 32) K h := by
  refine g_aload_n (n := 0) (sz := o + 32) X (by decide +kernel) 0 rfl ?_
  refine g_sipush (n := 4096) (x := (4096 : Int32)) (sz := o + 32) X (by decide +kernel) (by decide) ?_
  refine i_newa (aty := .int) (t := 0) (n := 4096) (sz := o + 32) X O (by decide +kernel) (by decide) rfl ac_0 rfl (by decide) (by decide) (Nat.le_of_ble_eq_true rfl) (Nat.le_of_ble_eq_true rfl) (Nat.le_of_ble_eq_true rfl) ?_
  exact i_putF (h' := sR (zr h (o + 32)) o 49 (some (o + 32))) (ty := .array (.int)) (sz := o + 33) X O (by decide +kernel) fl11_105r.1 (fun C T N h => by cases h; exact ⟨rfl, by decide +kernel⟩) (fun C T N h => by cases h; rfl) rfl rfl (kS_ne hk (by omega)) (by rw [fl11_105r.2]; exact Wr.r (x := some (o + 32))) kk
set_option maxRecDepth 100000 in
theorem im_33 {Γ : CT} {sp : Sp} {zf : Nat} {Kf : Ly} {hf : Hp} (X : Ok Γ sp prog_13_method_1_code y11_init.cls 1 none 1 none zf Kf hf) (O : Oi Γ 52 54371) {o : Nat} {K : Ly} {h : Hp} (hk : K o = some (.inl 23)) (kk : Go Γ (33, 29148) 283 [(0, .ref o)] [] (o + 34) (kS K (o + 33) (.inr (0, 4096))) (sR (zr h (o + 33)) o 50 (some (o + 33)))) : Go Γ (32, 25052) 274 [(0, .ref o)] [] (o + 33) K h := by
  refine g_aload_n (n := 0) (sz := o + 33) X (by decide +kernel) 0 rfl ?_
  refine g_sipush (n := 4096) (x := (4096 : Int32)) (sz := o + 33) X (by decide +kernel) (by decide) ?_
  refine i_newa (aty := .int) (t := 0) (n := 4096) (sz := o + 33) X O (by decide +kernel) (by decide) rfl ac_0 rfl (by decide) (by decide) (Nat.le_of_ble_eq_true rfl) (Nat.le_of_ble_eq_true rfl) (Nat.le_of_ble_eq_true rfl) ?_
  exact i_putF (h' := sR (zr h (o + 33)) o 50 (some (o + 33))) (ty := .array (.int)) (sz := o + 34) X O (by decide +kernel) fl11_108r.1 (fun C T N h => by cases h; exact ⟨rfl, by decide +kernel⟩) (fun C T N h => by cases h; rfl) rfl rfl (kS_ne hk (by omega)) (by rw [fl11_108r.2]; exact Wr.r (x := some (o + 33))) kk
set_option maxRecDepth 100000 in
theorem im_34 {Γ : CT} {sp : Sp} {zf : Nat} {Kf : Ly} {hf : Hp} (X : Ok Γ sp prog_13_method_1_code y11_init.cls 1 none 1 none zf Kf hf) (O : Oi Γ 52 54371) {o : Nat} {K : Ly} {h : Hp} (hk : K o = some (.inl 23)) (kk : Go Γ (34, 33244) 292 [(0, .ref o)] [] (o + 35) (kS K (o + 34) (.inr (0, 4096))) (sR (zr h (o + 34)) o 51 (some (o + 34)))) : Go Γ (33, 29148) 283 [(0, .ref o)] [] (o + 34) K h := by
  refine g_aload_n (n := 0) (sz := o + 34) X (by decide +kernel) 0 rfl ?_
  refine g_sipush (n := 4096) (x := (4096 : Int32)) (sz := o + 34) X (by decide +kernel) (by decide) ?_
  refine i_newa (aty := .int) (t := 0) (n := 4096) (sz := o + 34) X O (by decide +kernel) (by decide) rfl ac_0 rfl (by decide) (by decide) (Nat.le_of_ble_eq_true rfl) (Nat.le_of_ble_eq_true rfl) (Nat.le_of_ble_eq_true rfl) ?_
  exact i_putF (h' := sR (zr h (o + 34)) o 51 (some (o + 34))) (ty := .array (.int)) (sz := o + 35) X O (by decide +kernel) fl11_111r.1 (fun C T N h => by cases h; exact ⟨rfl, by decide +kernel⟩) (fun C T N h => by cases h; rfl) rfl rfl (kS_ne hk (by omega)) (by rw [fl11_111r.2]; exact Wr.r (x := some (o + 34))) kk
set_option maxRecDepth 100000 in
theorem im_35 {Γ : CT} {sp : Sp} {zf : Nat} {Kf : Ly} {hf : Hp} (X : Ok Γ sp prog_13_method_1_code y11_init.cls 1 none 1 none zf Kf hf) (O : Oi Γ 52 54371) {o : Nat} {K : Ly} {h : Hp} (hk : K o = some (.inl 23)) (kk : Go Γ (35, 37340) 301 [(0, .ref o)] [] (o + 36) (kS K (o + 35) (.inr (0, 4096))) (sR (zr h (o + 35)) o 52 (some (o + 35)))) : Go Γ (34, 33244) 292 [(0, .ref o)] [] (o + 35) K h := by
  refine g_aload_n (n := 0) (sz := o + 35) X (by decide +kernel) 0 rfl ?_
  refine g_sipush (n := 4096) (x := (4096 : Int32)) (sz := o + 35) X (by decide +kernel) (by decide) ?_
  refine i_newa (aty := .int) (t := 0) (n := 4096) (sz := o + 35) X O (by decide +kernel) (by decide) rfl ac_0 rfl (by decide) (by decide) (Nat.le_of_ble_eq_true rfl) (Nat.le_of_ble_eq_true rfl) (Nat.le_of_ble_eq_true rfl) ?_
  exact i_putF (h' := sR (zr h (o + 35)) o 52 (some (o + 35))) (ty := .array (.int)) (sz := o + 36) X O (by decide +kernel) fl11_114r.1 (fun C T N h => by cases h; exact ⟨rfl, by decide +kernel⟩) (fun C T N h => by cases h; rfl) rfl rfl (kS_ne hk (by omega)) (by rw [fl11_114r.2]; exact Wr.r (x := some (o + 35))) kk
set_option maxRecDepth 100000 in
theorem im_36 {Γ : CT} {sp : Sp} {zf : Nat} {Kf : Ly} {hf : Hp} (X : Ok Γ sp prog_13_method_1_code y11_init.cls 1 none 1 none zf Kf hf) (O : Oi Γ 52 54371) {o : Nat} {K : Ly} {h : Hp} (hk : K o = some (.inl 23)) (kk : Go Γ (36, 41436) 310 [(0, .ref o)] [] (o + 37) (kS K (o + 36) (.inr (0, 4096))) (sR (zr h (o + 36)) o 53 (some (o + 36)))) : Go Γ (35, 37340) 301 [(0, .ref o)] [] (o + 36) K h := by
  refine g_aload_n (n := 0) (sz := o + 36) X (by decide +kernel) 0 rfl ?_
  refine g_sipush (n := 4096) (x := (4096 : Int32)) (sz := o + 36) X (by decide +kernel) (by decide) ?_
  refine i_newa (aty := .int) (t := 0) (n := 4096) (sz := o + 36) X O (by decide +kernel) (by decide) rfl ac_0 rfl (by decide) (by decide) (Nat.le_of_ble_eq_true rfl) (Nat.le_of_ble_eq_true rfl) (Nat.le_of_ble_eq_true rfl) ?_
  exact i_putF (h' := sR (zr h (o + 36)) o 53 (some (o + 36))) (ty := .array (.int)) (sz := o + 37) X O (by decide +kernel) fl11_117r.1 (fun C T N h => by cases h; exact ⟨rfl, by decide +kernel⟩) (fun C T N h => by cases h; rfl) rfl rfl (kS_ne hk (by omega)) (by rw [fl11_117r.2]; exact Wr.r (x := some (o + 36))) kk
set_option maxRecDepth 100000 in
theorem im_37 {Γ : CT} {sp : Sp} {zf : Nat} {Kf : Ly} {hf : Hp} (X : Ok Γ sp prog_13_method_1_code y11_init.cls 1 none 1 none zf Kf hf) (O : Oi Γ 52 54371) {o : Nat} {K : Ly} {h : Hp} (hk : K o = some (.inl 23)) (kk : Go Γ (37, 45532) 319 [(0, .ref o)] [] (o + 38) (kS K (o + 37) (.inr (0, 4096))) (sR (zr h (o + 37)) o 54 (some (o + 37)))) : Go Γ (36, 41436) 310 [(0, .ref o)] [] (o + 37) K h := by
  refine g_aload_n (n := 0) (sz := o + 37) X (by decide +kernel) 0 rfl ?_
  refine g_sipush (n := 4096) (x := (4096 : Int32)) (sz := o + 37) X (by decide +kernel) (by decide) ?_
  refine i_newa (aty := .int) (t := 0) (n := 4096) (sz := o + 37) X O (by decide +kernel) (by decide) rfl ac_0 rfl (by decide) (by decide) (Nat.le_of_ble_eq_true rfl) (Nat.le_of_ble_eq_true rfl) (Nat.le_of_ble_eq_true rfl) ?_
  exact i_putF (h' := sR (zr h (o + 37)) o 54 (some (o + 37))) (ty := .array (.int)) (sz := o + 38) X O (by decide +kernel) fl11_120r.1 (fun C T N h => by cases h; exact ⟨rfl, by decide +kernel⟩) (fun C T N h => by cases h; rfl) rfl rfl (kS_ne hk (by omega)) (by rw [fl11_120r.2]; exact Wr.r (x := some (o + 37))) kk
set_option maxRecDepth 100000 in
theorem im_38 {Γ : CT} {sp : Sp} {zf : Nat} {Kf : Ly} {hf : Hp} (X : Ok Γ sp prog_13_method_1_code y11_init.cls 1 none 1 none zf Kf hf) (O : Oi Γ 52 54371) {o : Nat} {K : Ly} {h : Hp} (hk : K o = some (.inl 23)) (kk : Go Γ (38, 49628) 328 [(0, .ref o)] [] (o + 39) (kS K (o + 38) (.inr (0, 4096))) (sR (zr h (o + 38)) o 55 (some (o + 38)))) : Go Γ (37, 45532) 319 [(0, .ref o)] [] (o + 38) K h := by
  refine g_aload_n (n := 0) (sz := o + 38) X (by decide +kernel) 0 rfl ?_
  refine g_sipush (n := 4096) (x := (4096 : Int32)) (sz := o + 38) X (by decide +kernel) (by decide) ?_
  refine i_newa (aty := .int) (t := 0) (n := 4096) (sz := o + 38) X O (by decide +kernel) (by decide) rfl ac_0 rfl (by decide) (by decide) (Nat.le_of_ble_eq_true rfl) (Nat.le_of_ble_eq_true rfl) (Nat.le_of_ble_eq_true rfl) ?_
  exact i_putF (h' := sR (zr h (o + 38)) o 55 (some (o + 38))) (ty := .array (.int)) (sz := o + 39) X O (by decide +kernel) fl11_123r.1 (fun C T N h => by cases h; exact ⟨rfl, by decide +kernel⟩) (fun C T N h => by cases h; rfl) rfl rfl (kS_ne hk (by omega)) (by rw [fl11_123r.2]; exact Wr.r (x := some (o + 38))) kk
set_option maxRecDepth 100000 in
theorem im_39 {Γ : CT} {sp : Sp} {zf : Nat} {Kf : Ly} {hf : Hp} (X : Ok Γ sp prog_13_method_1_code y11_init.cls 1 none 1 none zf Kf hf) (O : Oi Γ 52 54371) {o : Nat} {K : Ly} {h : Hp} (hk : K o = some (.inl 23)) (kk : Go Γ (39, 53724) 337 [(0, .ref o)] [] (o + 40) (kS K (o + 39) (.inr (0, 4096))) (sR (zr h (o + 39)) o 56 (some (o + 39)))) : Go Γ (38, 49628) 328 [(0, .ref o)] [] (o + 39) K h := by
  refine g_aload_n (n := 0) (sz := o + 39) X (by decide +kernel) 0 rfl ?_
  refine g_sipush (n := 4096) (x := (4096 : Int32)) (sz := o + 39) X (by decide +kernel) (by decide) ?_
  refine i_newa (aty := .int) (t := 0) (n := 4096) (sz := o + 39) X O (by decide +kernel) (by decide) rfl ac_0 rfl (by decide) (by decide) (Nat.le_of_ble_eq_true rfl) (Nat.le_of_ble_eq_true rfl) (Nat.le_of_ble_eq_true rfl) ?_
  exact i_putF (h' := sR (zr h (o + 39)) o 56 (some (o + 39))) (ty := .array (.int)) (sz := o + 40) X O (by decide +kernel) fl11_126r.1 (fun C T N h => by cases h; exact ⟨rfl, by decide +kernel⟩) (fun C T N h => by cases h; rfl) rfl rfl (kS_ne hk (by omega)) (by rw [fl11_126r.2]; exact Wr.r (x := some (o + 39))) kk
set_option maxRecDepth 100000 in
theorem im_40 {Γ : CT} {sp : Sp} {zf : Nat} {Kf : Ly} {hf : Hp} (X : Ok Γ sp prog_13_method_1_code y11_init.cls 1 none 1 none zf Kf hf) (O : Oi Γ 52 54371) {o : Nat} {K : Ly} {h : Hp} (hk : K o = some (.inl 23)) (kk : Go Γ (40, 53788) 345 [(0, .ref o)] [] (o + 41) (kS K (o + 40) (.inr (0, 64))) (sR (zr h (o + 40)) o 57 (some (o + 40)))) : Go Γ (39, 53724) 337 [(0, .ref o)] [] (o + 40) K h := by
  refine g_aload_n (n := 0) (sz := o + 40) X (by decide +kernel) 0 rfl ?_
  refine g_bipush (n := 64) (x := (64 : Int32)) (sz := o + 40) X (by decide +kernel) (by decide) ?_
  refine i_newa (aty := .int) (t := 0) (n := 64) (sz := o + 40) X O (by decide +kernel) (by decide) rfl ac_0 rfl (by decide) (by decide) (Nat.le_of_ble_eq_true rfl) (Nat.le_of_ble_eq_true rfl) (Nat.le_of_ble_eq_true rfl) ?_
  exact i_putF (h' := sR (zr h (o + 40)) o 57 (some (o + 40))) (ty := .array (.int)) (sz := o + 41) X O (by decide +kernel) fl11_129r.1 (fun C T N h => by cases h; exact ⟨rfl, by decide +kernel⟩) (fun C T N h => by cases h; rfl) rfl rfl (kS_ne hk (by omega)) (by rw [fl11_129r.2]; exact Wr.r (x := some (o + 40))) kk
set_option maxRecDepth 100000 in
theorem im_41 {Γ : CT} {sp : Sp} {zf : Nat} {Kf : Ly} {hf : Hp} (X : Ok Γ sp prog_13_method_1_code y11_init.cls 1 none 1 none zf Kf hf) (O : Oi Γ 52 54371) {o : Nat} {K : Ly} {h : Hp} (hk : K o = some (.inl 23)) (kk : Go Γ (41, 53852) 353 [(0, .ref o)] [] (o + 42) (kS K (o + 41) (.inr (0, 64))) (sR (zr h (o + 41)) o 58 (some (o + 41)))) : Go Γ (40, 53788) 345 [(0, .ref o)] [] (o + 41) K h := by
  refine g_aload_n (n := 0) (sz := o + 41) X (by decide +kernel) 0 rfl ?_
  refine g_bipush (n := 64) (x := (64 : Int32)) (sz := o + 41) X (by decide +kernel) (by decide) ?_
  refine i_newa (aty := .int) (t := 0) (n := 64) (sz := o + 41) X O (by decide +kernel) (by decide) rfl ac_0 rfl (by decide) (by decide) (Nat.le_of_ble_eq_true rfl) (Nat.le_of_ble_eq_true rfl) (Nat.le_of_ble_eq_true rfl) ?_
  exact i_putF (h' := sR (zr h (o + 41)) o 58 (some (o + 41))) (ty := .array (.int)) (sz := o + 42) X O (by decide +kernel) fl11_132r.1 (fun C T N h => by cases h; exact ⟨rfl, by decide +kernel⟩) (fun C T N h => by cases h; rfl) rfl rfl (kS_ne hk (by omega)) (by rw [fl11_132r.2]; exact Wr.r (x := some (o + 41))) kk
set_option maxRecDepth 100000 in
theorem im_42 {Γ : CT} {sp : Sp} {zf : Nat} {Kf : Ly} {hf : Hp} (X : Ok Γ sp prog_13_method_1_code y11_init.cls 1 none 1 none zf Kf hf) (O : Oi Γ 52 54371) {o : Nat} {K : Ly} {h : Hp} (hk : K o = some (.inl 23)) (kk : Go Γ (42, 53916) 361 [(0, .ref o)] [] (o + 43) (kS K (o + 42) (.inr (0, 64))) (sR (zr h (o + 42)) o 59 (some (o + 42)))) : Go Γ (41, 53852) 353 [(0, .ref o)] [] (o + 42) K h := by
  refine g_aload_n (n := 0) (sz := o + 42) X (by decide +kernel) 0 rfl ?_
  refine g_bipush (n := 64) (x := (64 : Int32)) (sz := o + 42) X (by decide +kernel) (by decide) ?_
  refine i_newa (aty := .int) (t := 0) (n := 64) (sz := o + 42) X O (by decide +kernel) (by decide) rfl ac_0 rfl (by decide) (by decide) (Nat.le_of_ble_eq_true rfl) (Nat.le_of_ble_eq_true rfl) (Nat.le_of_ble_eq_true rfl) ?_
  exact i_putF (h' := sR (zr h (o + 42)) o 59 (some (o + 42))) (ty := .array (.int)) (sz := o + 43) X O (by decide +kernel) fl11_135r.1 (fun C T N h => by cases h; exact ⟨rfl, by decide +kernel⟩) (fun C T N h => by cases h; rfl) rfl rfl (kS_ne hk (by omega)) (by rw [fl11_135r.2]; exact Wr.r (x := some (o + 42))) kk
set_option maxRecDepth 100000 in
theorem im_43 {Γ : CT} {sp : Sp} {zf : Nat} {Kf : Ly} {hf : Hp} (X : Ok Γ sp prog_13_method_1_code y11_init.cls 1 none 1 none zf Kf hf) (O : Oi Γ 52 54371) {o : Nat} {K : Ly} {h : Hp} (hk : K o = some (.inl 23)) (kk : Go Γ (43, 53980) 369 [(0, .ref o)] [] (o + 44) (kS K (o + 43) (.inr (0, 64))) (sR (zr h (o + 43)) o 60 (some (o + 43)))) : Go Γ (42, 53916) 361 [(0, .ref o)] [] (o + 43) K h := by
  refine g_aload_n (n := 0) (sz := o + 43) X (by decide +kernel) 0 rfl ?_
  refine g_bipush (n := 64) (x := (64 : Int32)) (sz := o + 43) X (by decide +kernel) (by decide) ?_
  refine i_newa (aty := .int) (t := 0) (n := 64) (sz := o + 43) X O (by decide +kernel) (by decide) rfl ac_0 rfl (by decide) (by decide) (Nat.le_of_ble_eq_true rfl) (Nat.le_of_ble_eq_true rfl) (Nat.le_of_ble_eq_true rfl) ?_
  exact i_putF (h' := sR (zr h (o + 43)) o 60 (some (o + 43))) (ty := .array (.int)) (sz := o + 44) X O (by decide +kernel) fl11_138r.1 (fun C T N h => by cases h; exact ⟨rfl, by decide +kernel⟩) (fun C T N h => by cases h; rfl) rfl rfl (kS_ne hk (by omega)) (by rw [fl11_138r.2]; exact Wr.r (x := some (o + 43))) kk
set_option maxRecDepth 100000 in
theorem im_44 {Γ : CT} {sp : Sp} {zf : Nat} {Kf : Ly} {hf : Hp} (X : Ok Γ sp prog_13_method_1_code y11_init.cls 1 none 1 none zf Kf hf) (O : Oi Γ 52 54371) {o : Nat} {K : Ly} {h : Hp} (hk : K o = some (.inl 23)) (kk : Go Γ (44, 54044) 377 [(0, .ref o)] [] (o + 45) (kS K (o + 44) (.inr (0, 64))) (sR (zr h (o + 44)) o 61 (some (o + 44)))) : Go Γ (43, 53980) 369 [(0, .ref o)] [] (o + 44) K h := by
  refine g_aload_n (n := 0) (sz := o + 44) X (by decide +kernel) 0 rfl ?_
  refine g_bipush (n := 64) (x := (64 : Int32)) (sz := o + 44) X (by decide +kernel) (by decide) ?_
  refine i_newa (aty := .int) (t := 0) (n := 64) (sz := o + 44) X O (by decide +kernel) (by decide) rfl ac_0 rfl (by decide) (by decide) (Nat.le_of_ble_eq_true rfl) (Nat.le_of_ble_eq_true rfl) (Nat.le_of_ble_eq_true rfl) ?_
  exact i_putF (h' := sR (zr h (o + 44)) o 61 (some (o + 44))) (ty := .array (.int)) (sz := o + 45) X O (by decide +kernel) fl11_141r.1 (fun C T N h => by cases h; exact ⟨rfl, by decide +kernel⟩) (fun C T N h => by cases h; rfl) rfl rfl (kS_ne hk (by omega)) (by rw [fl11_141r.2]; exact Wr.r (x := some (o + 44))) kk
set_option maxRecDepth 100000 in
theorem im_45 {Γ : CT} {sp : Sp} {zf : Nat} {Kf : Ly} {hf : Hp} (X : Ok Γ sp prog_13_method_1_code y11_init.cls 1 none 1 none zf Kf hf) (O : Oi Γ 52 54371) {o : Nat} {K : Ly} {h : Hp} (hk : K o = some (.inl 23)) (kk : Go Γ (45, 54108) 385 [(0, .ref o)] [] (o + 46) (kS K (o + 45) (.inr (0, 64))) (sR (zr h (o + 45)) o 62 (some (o + 45)))) : Go Γ (44, 54044) 377 [(0, .ref o)] [] (o + 45) K h := by
  refine g_aload_n (n := 0) (sz := o + 45) X (by decide +kernel) 0 rfl ?_
  refine g_bipush (n := 64) (x := (64 : Int32)) (sz := o + 45) X (by decide +kernel) (by decide) ?_
  refine i_newa (aty := .int) (t := 0) (n := 64) (sz := o + 45) X O (by decide +kernel) (by decide) rfl ac_0 rfl (by decide) (by decide) (Nat.le_of_ble_eq_true rfl) (Nat.le_of_ble_eq_true rfl) (Nat.le_of_ble_eq_true rfl) ?_
  exact i_putF (h' := sR (zr h (o + 45)) o 62 (some (o + 45))) (ty := .array (.int)) (sz := o + 46) X O (by decide +kernel) fl11_144r.1 (fun C T N h => by cases h; exact ⟨rfl, by decide +kernel⟩) (fun C T N h => by cases h; rfl) rfl rfl (kS_ne hk (by omega)) (by rw [fl11_144r.2]; exact Wr.r (x := some (o + 45))) kk
set_option maxRecDepth 100000 in
theorem im_46 {Γ : CT} {sp : Sp} {zf : Nat} {Kf : Ly} {hf : Hp} (X : Ok Γ sp prog_13_method_1_code y11_init.cls 1 none 1 none zf Kf hf) (O : Oi Γ 52 54371) {o : Nat} {K : Ly} {h : Hp} (hk : K o = some (.inl 23)) (kk : Go Γ (46, 54172) 393 [(0, .ref o)] [] (o + 47) (kS K (o + 46) (.inr (0, 64))) (sR (zr h (o + 46)) o 63 (some (o + 46)))) : Go Γ (45, 54108) 385 [(0, .ref o)] [] (o + 46) K h := by
  refine g_aload_n (n := 0) (sz := o + 46) X (by decide +kernel) 0 rfl ?_
  refine g_bipush (n := 64) (x := (64 : Int32)) (sz := o + 46) X (by decide +kernel) (by decide) ?_
  refine i_newa (aty := .int) (t := 0) (n := 64) (sz := o + 46) X O (by decide +kernel) (by decide) rfl ac_0 rfl (by decide) (by decide) (Nat.le_of_ble_eq_true rfl) (Nat.le_of_ble_eq_true rfl) (Nat.le_of_ble_eq_true rfl) ?_
  exact i_putF (h' := sR (zr h (o + 46)) o 63 (some (o + 46))) (ty := .array (.int)) (sz := o + 47) X O (by decide +kernel) fl11_147r.1 (fun C T N h => by cases h; exact ⟨rfl, by decide +kernel⟩) (fun C T N h => by cases h; rfl) rfl rfl (kS_ne hk (by omega)) (by rw [fl11_147r.2]; exact Wr.r (x := some (o + 46))) kk
set_option maxRecDepth 100000 in
theorem im_47 {Γ : CT} {sp : Sp} {zf : Nat} {Kf : Ly} {hf : Hp} (X : Ok Γ sp prog_13_method_1_code y11_init.cls 1 none 1 none zf Kf hf) (O : Oi Γ 52 54371) {o : Nat} {K : Ly} {h : Hp} (hk : K o = some (.inl 23)) (kk : Go Γ (47, 54236) 401 [(0, .ref o)] [] (o + 48) (kS K (o + 47) (.inr (0, 64))) (sR (zr h (o + 47)) o 64 (some (o + 47)))) : Go Γ (46, 54172) 393 [(0, .ref o)] [] (o + 47) K h := by
  refine g_aload_n (n := 0) (sz := o + 47) X (by decide +kernel) 0 rfl ?_
  refine g_bipush (n := 64) (x := (64 : Int32)) (sz := o + 47) X (by decide +kernel) (by decide) ?_
  refine i_newa (aty := .int) (t := 0) (n := 64) (sz := o + 47) X O (by decide +kernel) (by decide) rfl ac_0 rfl (by decide) (by decide) (Nat.le_of_ble_eq_true rfl) (Nat.le_of_ble_eq_true rfl) (Nat.le_of_ble_eq_true rfl) ?_
  exact i_putF (h' := sR (zr h (o + 47)) o 64 (some (o + 47))) (ty := .array (.int)) (sz := o + 48) X O (by decide +kernel) fl11_150r.1 (fun C T N h => by cases h; exact ⟨rfl, by decide +kernel⟩) (fun C T N h => by cases h; rfl) rfl rfl (kS_ne hk (by omega)) (by rw [fl11_150r.2]; exact Wr.r (x := some (o + 47))) kk
set_option maxRecDepth 100000 in
theorem im_48 {Γ : CT} {sp : Sp} {zf : Nat} {Kf : Ly} {hf : Hp} (X : Ok Γ sp prog_13_method_1_code y11_init.cls 1 none 1 none zf Kf hf) (O : Oi Γ 52 54371) {o : Nat} {K : Ly} {h : Hp} (hk : K o = some (.inl 23)) (kk : Go Γ (48, 54284) 409 [(0, .ref o)] [] (o + 49) (kS K (o + 48) (.inr (0, 48))) (sR (zr h (o + 48)) o 77 (some (o + 48)))) : Go Γ (47, 54236) 401 [(0, .ref o)] [] (o + 48) K h := by
  refine g_aload_n (n := 0) (sz := o + 48) X (by decide +kernel) 0 rfl ?_
  refine g_bipush (n := 48) (x := (48 : Int32)) (sz := o + 48) X (by decide +kernel) (by decide) ?_
  refine i_newa (aty := .int) (t := 0) (n := 48) (sz := o + 48) X O (by decide +kernel) (by decide) rfl ac_0 rfl (by decide) (by decide) (Nat.le_of_ble_eq_true rfl) (Nat.le_of_ble_eq_true rfl) (Nat.le_of_ble_eq_true rfl) ?_
  exact i_putF (h' := sR (zr h (o + 48)) o 77 (some (o + 48))) (ty := .array (.int)) (sz := o + 49) X O (by decide +kernel) fl11_153r.1 (fun C T N h => by cases h; exact ⟨rfl, by decide +kernel⟩) (fun C T N h => by cases h; rfl) rfl rfl (kS_ne hk (by omega)) (by rw [fl11_153r.2]; exact Wr.r (x := some (o + 48))) kk
set_option maxRecDepth 100000 in
theorem im_49 {Γ : CT} {sp : Sp} {zf : Nat} {Kf : Ly} {hf : Hp} (X : Ok Γ sp prog_13_method_1_code y11_init.cls 1 none 1 none zf Kf hf) (O : Oi Γ 52 54371) {o : Nat} {K : Ly} {h : Hp} (hk : K o = some (.inl 23)) (kk : Go Γ (49, 54292) 417 [(0, .ref o)] [] (o + 50) (kS K (o + 49) (.inr (0, 8))) (sR (zr h (o + 49)) o 78 (some (o + 49)))) : Go Γ (48, 54284) 409 [(0, .ref o)] [] (o + 49) K h := by
  refine g_aload_n (n := 0) (sz := o + 49) X (by decide +kernel) 0 rfl ?_
  refine g_bipush (n := 8) (x := (8 : Int32)) (sz := o + 49) X (by decide +kernel) (by decide) ?_
  refine i_newa (aty := .int) (t := 0) (n := 8) (sz := o + 49) X O (by decide +kernel) (by decide) rfl ac_0 rfl (by decide) (by decide) (Nat.le_of_ble_eq_true rfl) (Nat.le_of_ble_eq_true rfl) (Nat.le_of_ble_eq_true rfl) ?_
  exact i_putF (h' := sR (zr h (o + 49)) o 78 (some (o + 49))) (ty := .array (.int)) (sz := o + 50) X O (by decide +kernel) fl11_156r.1 (fun C T N h => by cases h; exact ⟨rfl, by decide +kernel⟩) (fun C T N h => by cases h; rfl) rfl rfl (kS_ne hk (by omega)) (by rw [fl11_156r.2]; exact Wr.r (x := some (o + 49))) kk
set_option maxRecDepth 100000 in
theorem im_50 {Γ : CT} {sp : Sp} {zf : Nat} {Kf : Ly} {hf : Hp} (X : Ok Γ sp prog_13_method_1_code y11_init.cls 1 none 1 none zf Kf hf) (O : Oi Γ 52 54371) {o : Nat} {K : Ly} {h : Hp} (hk : K o = some (.inl 23)) (kk : Go Γ (50, 54328) 425 [(0, .ref o)] [] (o + 51) (kS K (o + 50) (.inr (0, 36))) (sR (zr h (o + 50)) o 80 (some (o + 50)))) : Go Γ (49, 54292) 417 [(0, .ref o)] [] (o + 50) K h := by
  refine g_aload_n (n := 0) (sz := o + 50) X (by decide +kernel) 0 rfl ?_
  refine g_bipush (n := 36) (x := (36 : Int32)) (sz := o + 50) X (by decide +kernel) (by decide) ?_
  refine i_newa (aty := .int) (t := 0) (n := 36) (sz := o + 50) X O (by decide +kernel) (by decide) rfl ac_0 rfl (by decide) (by decide) (Nat.le_of_ble_eq_true rfl) (Nat.le_of_ble_eq_true rfl) (Nat.le_of_ble_eq_true rfl) ?_
  exact i_putF (h' := sR (zr h (o + 50)) o 80 (some (o + 50))) (ty := .array (.int)) (sz := o + 51) X O (by decide +kernel) fl11_159r.1 (fun C T N h => by cases h; exact ⟨rfl, by decide +kernel⟩) (fun C T N h => by cases h; rfl) rfl rfl (kS_ne hk (by omega)) (by rw [fl11_159r.2]; exact Wr.r (x := some (o + 50))) kk
set_option maxRecDepth 100000 in
theorem im_51 {Γ : CT} {sp : Sp} {zf : Nat} {Kf : Ly} {hf : Hp} (X : Ok Γ sp prog_13_method_1_code y11_init.cls 1 none 1 none zf Kf hf) (O : Oi Γ 52 54371) {o : Nat} {K : Ly} {h : Hp} (hk : K o = some (.inl 23)) (kk : Go Γ (51, 54368) 433 [(0, .ref o)] [] (o + 52) (kS K (o + 51) (.inr (0, 40))) (sR (zr h (o + 51)) o 84 (some (o + 51)))) : Go Γ (50, 54328) 425 [(0, .ref o)] [] (o + 51) K h := by
  refine g_aload_n (n := 0) (sz := o + 51) X (by decide +kernel) 0 rfl ?_
  refine g_bipush (n := 40) (x := (40 : Int32)) (sz := o + 51) X (by decide +kernel) (by decide) ?_
  refine i_newa (aty := .int) (t := 0) (n := 40) (sz := o + 51) X O (by decide +kernel) (by decide) rfl ac_0 rfl (by decide) (by decide) (Nat.le_of_ble_eq_true rfl) (Nat.le_of_ble_eq_true rfl) (Nat.le_of_ble_eq_true rfl) ?_
  exact i_putF (h' := sR (zr h (o + 51)) o 84 (some (o + 51))) (ty := .array (.int)) (sz := o + 52) X O (by decide +kernel) fl11_162r.1 (fun C T N h => by cases h; exact ⟨rfl, by decide +kernel⟩) (fun C T N h => by cases h; rfl) rfl rfl (kS_ne hk (by omega)) (by rw [fl11_162r.2]; exact Wr.r (x := some (o + 51))) kk
set_option maxRecDepth 100000 in
theorem im_52 {Γ : CT} {sp : Sp} {zf : Nat} {Kf : Ly} {hf : Hp} (X : Ok Γ sp prog_13_method_1_code y11_init.cls 1 none 1 none zf Kf hf) (O : Oi Γ 52 54371) {o : Nat} {K : Ly} {h : Hp} (hk : K o = some (.inl 23)) (kk : Go Γ (52, 54371) 440 [(0, .ref o)] [] (o + 53) (kS K (o + 52) (.inr (2, 3))) (sR (zr h (o + 52)) o 86 (some (o + 52)))) : Go Γ (51, 54368) 433 [(0, .ref o)] [] (o + 52) K h := by
  refine g_aload_n (n := 0) (sz := o + 52) X (by decide +kernel) 0 rfl ?_
  refine g_iconst (n := 3) (x := (3 : Int32)) (sz := o + 52) X (by decide +kernel) (by decide) ?_
  refine i_newa (aty := .boolean) (t := 2) (n := 3) (sz := o + 52) X O (by decide +kernel) (by decide) rfl ac_2 rfl (by decide) (by decide) (Nat.le_of_ble_eq_true rfl) (Nat.le_of_ble_eq_true rfl) (Nat.le_of_ble_eq_true rfl) ?_
  exact i_putF (h' := sR (zr h (o + 52)) o 86 (some (o + 52))) (ty := .array (.boolean)) (sz := o + 53) X O (by decide +kernel) fl11_165r.1 (fun C T N h => by cases h; exact ⟨rfl, by decide +kernel⟩) (fun C T N h => by cases h; rfl) rfl rfl (kS_ne hk (by omega)) (by rw [fl11_165r.2]; exact Wr.r (x := some (o + 52))) kk
theorem kS_ne2 {K : Ly} {a b : Nat} {kd : Kd} (hne : a ≠ b) : kS K b kd a = K a := by simp [kS, hne]
set_option maxHeartbeats 4000000 in
set_option maxRecDepth 100000 in
theorem im_end {Γ : CT} {sp : Sp} {o : Nat} {K : Ly} {h : Hp} {zf : Nat} (X : Ok Γ sp prog_13_method_1_code y11_init.cls 1 none 1 none (o + 53) (kS K o (.inl 11)) (sI h (o + 4) (0 : Int32).toNatClampNeg (-1 : Int32))) (O : Oi Γ 52 54371) (hk : K o = some (.inl 23)) (h4 : K (o + 4) = some (.inr (0, 4))) (gp : h.2.2 o 4 = some (o + 4)) (hall : ∀ j, j < 87 → tV (fc 23 j) (sI h (o + 4) (0 : Int32).toNatClampNeg (-1 : Int32)) o j = tV (fc 11 j) (sI h (o + 4) (0 : Int32).toNatClampNeg (-1 : Int32)) o j) : Go Γ (52, 54371) 440 [(0, .ref o)] [] (o + 53) K h := by
  refine g_aload_n (n := 0) (sz := o + 53) X (by decide +kernel) 0 rfl ?_
  refine g_getR (e := o + 4) (sz := o + 53) X (by decide +kernel) fl11_20r hk gp ?_
  refine g_iconst (n := 0) (x := (0 : Int32)) (sz := o + 53) X (by decide +kernel) (by decide) ?_
  refine g_iconst (n := -1) (x := (-1 : Int32)) (sz := o + 53) X (by decide +kernel) (by decide) ?_
  refine g_iast (sz := o + 53) X (by decide +kernel) h4 (by decide) rfl ?_
  refine i_fin (ci := 11) (sz := o + 53) X hk rfl rfl hall ?_
  exact i_ret (sz := o + 53) X O (by decide +kernel) (Nat.le_of_ble_eq_true rfl) (Nat.le_of_ble_eq_true rfl)
set_option maxHeartbeats 4000000 in
set_option maxRecDepth 100000 in
theorem ci11 {sp : Sp} {K : Ly} {h : Hp} {o : Nat} (hk : K o = some (.inl 23)) : ConI sp y11_init prog_13_method_1_code 1 1 52 54371 o (o + 1) K h (o + 53) (kI11 K o) (hI11 h o) := by
  refine ConI.of (by decide) rfl (by decide) (fun Γ X O Q => ?_)
  refine g_aload_n (n := 0) (sz := o + 1) X (by decide +kernel) 0 rfl ?_
  refine i_obj (idx := 1) (sz := o + 1) X (by decide +kernel) (in_c5 198 rfl rfl) ob_i ob_c (by decide) (Nat.le_of_ble_eq_true rfl) ?_
  refine im_1 X O hk ?_
  replace hk := kS_ne (b := o + 1) (kd := .inr (1, 2400)) hk (by omega)
  refine im_2 X O hk ?_
  replace hk := kS_ne (b := o + 2) (kd := .inr (0, 4)) hk (by omega)
  refine im_3 X O hk ?_
  replace hk := kS_ne (b := o + 3) (kd := .inr (0, 4)) hk (by omega)
  refine im_4 X O hk ?_
  replace hk := kS_ne (b := o + 4) (kd := .inr (0, 4)) hk (by omega)
  refine im_5 X O hk ?_
  replace hk := kS_ne (b := o + 5) (kd := .inr (0, 12)) hk (by omega)
  refine im_6 X O hk ?_
  replace hk := kS_ne (b := o + 6) (kd := .inr (0, 976)) hk (by omega)
  refine im_7 X O hk ?_
  replace hk := kS_ne (b := o + 7) (kd := .inr (0, 968)) hk (by omega)
  refine im_8 X O hk ?_
  replace hk := kS_ne (b := o + 8) (kd := .inr (0, 136)) hk (by omega)
  refine im_9 X O hk ?_
  replace hk := kS_ne (b := o + 9) (kd := .inr (0, 122)) hk (by omega)
  refine im_10 X O hk ?_
  replace hk := kS_ne (b := o + 10) (kd := .inr (0, 4)) hk (by omega)
  refine im_11 X O hk ?_
  replace hk := kS_ne (b := o + 11) (kd := .inr (0, 36)) hk (by omega)
  refine im_12 X O hk ?_
  replace hk := kS_ne (b := o + 12) (kd := .inr (3, 6)) hk (by omega)
  refine im_13 X O hk ?_
  replace hk := kS_ne (b := o + 13) (kd := .inr (0, 36)) hk (by omega)
  refine im_14 X O hk ?_
  replace hk := kS_ne (b := o + 14) (kd := .inr (0, 6)) hk (by omega)
  refine im_15 X O hk ?_
  replace hk := kS_ne (b := o + 15) (kd := .inr (0, 36)) hk (by omega)
  refine im_16 X O hk ?_
  replace hk := kS_ne (b := o + 16) (kd := .inr (0, 36)) hk (by omega)
  refine im_17 X O hk ?_
  replace hk := kS_ne (b := o + 17) (kd := .inr (0, 36)) hk (by omega)
  refine im_18 X O hk ?_
  replace hk := kS_ne (b := o + 18) (kd := .inr (0, 6)) hk (by omega)
  refine im_19 X O hk ?_
  replace hk := kS_ne (b := o + 19) (kd := .inr (0, 384)) hk (by omega)
  refine im_20 X O hk ?_
  replace hk := kS_ne (b := o + 20) (kd := .inr (0, 384)) hk (by omega)
  refine im_21 X O hk ?_
  replace hk := kS_ne (b := o + 21) (kd := .inr (0, 384)) hk (by omega)
  refine im_22 X O hk ?_
  replace hk := kS_ne (b := o + 22) (kd := .inr (3, 384)) hk (by omega)
  refine im_23 X O hk ?_
  replace hk := kS_ne (b := o + 23) (kd := .inr (3, 384)) hk (by omega)
  refine im_24 X O hk ?_
  replace hk := kS_ne (b := o + 24) (kd := .inr (0, 384)) hk (by omega)
  refine im_25 X O hk ?_
  replace hk := kS_ne (b := o + 25) (kd := .inr (0, 384)) hk (by omega)
  refine im_26 X O hk ?_
  replace hk := kS_ne (b := o + 26) (kd := .inr (0, 384)) hk (by omega)
  refine im_27 X O hk ?_
  replace hk := kS_ne (b := o + 27) (kd := .inr (0, 384)) hk (by omega)
  refine im_28 X O hk ?_
  replace hk := kS_ne (b := o + 28) (kd := .inr (0, 384)) hk (by omega)
  refine im_29 X O hk ?_
  replace hk := kS_ne (b := o + 29) (kd := .inr (0, 4096)) hk (by omega)
  refine im_30 X O hk ?_
  replace hk := kS_ne (b := o + 30) (kd := .inr (0, 4096)) hk (by omega)
  refine im_31 X O hk ?_
  replace hk := kS_ne (b := o + 31) (kd := .inr (0, 4096)) hk (by omega)
  refine im_32 X O hk ?_
  replace hk := kS_ne (b := o + 32) (kd := .inr (0, 4096)) hk (by omega)
  refine im_33 X O hk ?_
  replace hk := kS_ne (b := o + 33) (kd := .inr (0, 4096)) hk (by omega)
  refine im_34 X O hk ?_
  replace hk := kS_ne (b := o + 34) (kd := .inr (0, 4096)) hk (by omega)
  refine im_35 X O hk ?_
  replace hk := kS_ne (b := o + 35) (kd := .inr (0, 4096)) hk (by omega)
  refine im_36 X O hk ?_
  replace hk := kS_ne (b := o + 36) (kd := .inr (0, 4096)) hk (by omega)
  refine im_37 X O hk ?_
  replace hk := kS_ne (b := o + 37) (kd := .inr (0, 4096)) hk (by omega)
  refine im_38 X O hk ?_
  replace hk := kS_ne (b := o + 38) (kd := .inr (0, 4096)) hk (by omega)
  refine im_39 X O hk ?_
  replace hk := kS_ne (b := o + 39) (kd := .inr (0, 4096)) hk (by omega)
  refine im_40 X O hk ?_
  replace hk := kS_ne (b := o + 40) (kd := .inr (0, 64)) hk (by omega)
  refine im_41 X O hk ?_
  replace hk := kS_ne (b := o + 41) (kd := .inr (0, 64)) hk (by omega)
  refine im_42 X O hk ?_
  replace hk := kS_ne (b := o + 42) (kd := .inr (0, 64)) hk (by omega)
  refine im_43 X O hk ?_
  replace hk := kS_ne (b := o + 43) (kd := .inr (0, 64)) hk (by omega)
  refine im_44 X O hk ?_
  replace hk := kS_ne (b := o + 44) (kd := .inr (0, 64)) hk (by omega)
  refine im_45 X O hk ?_
  replace hk := kS_ne (b := o + 45) (kd := .inr (0, 64)) hk (by omega)
  refine im_46 X O hk ?_
  replace hk := kS_ne (b := o + 46) (kd := .inr (0, 64)) hk (by omega)
  refine im_47 X O hk ?_
  replace hk := kS_ne (b := o + 47) (kd := .inr (0, 64)) hk (by omega)
  refine im_48 X O hk ?_
  replace hk := kS_ne (b := o + 48) (kd := .inr (0, 48)) hk (by omega)
  refine im_49 X O hk ?_
  replace hk := kS_ne (b := o + 49) (kd := .inr (0, 8)) hk (by omega)
  refine im_50 X O hk ?_
  replace hk := kS_ne (b := o + 50) (kd := .inr (0, 36)) hk (by omega)
  refine im_51 X O hk ?_
  replace hk := kS_ne (b := o + 51) (kd := .inr (0, 40)) hk (by omega)
  refine im_52 X O hk ?_
  replace hk := kS_ne (b := o + 52) (kd := .inr (2, 3)) hk (by omega)
  exact im_end (zf := 0) X O hk (by repeat (first | exact kS_eq | rw [kS_ne2 (show o + 4 ≠ _ by omega)])) (zs_at o 4 4 ol11 h (by decide) (by decide) (by decide)) (hall11 K h o)
