theorem kS_mono {Ka Kb : Ly} {b : Nat} {kd : Kd} (hm : ∀ a k, Ka a = some k → Kb a = some k) : ∀ a k, kS Ka b kd a = some k → kS Kb b kd a = some k := fun a k h => by
  by_cases ha : a = b
  · rw [ha, kS_eq] at h; rw [ha, kS_eq]; exact h
  · rw [kS_ne2 ha] at h; rw [kS_ne2 ha]; exact hm a k h
theorem kI11_mono {Ka Kb : Ly} {o : Nat} (hm : ∀ a k, Ka a = some k → Kb a = some k) : ∀ a k, kI11 Ka o a = some k → kI11 Kb o a = some k := by
  unfold kI11
  exact (kS_mono (kS_mono (kS_mono (kS_mono (kS_mono (kS_mono (kS_mono (kS_mono (kS_mono (kS_mono (kS_mono (kS_mono (kS_mono (kS_mono (kS_mono (kS_mono (kS_mono (kS_mono (kS_mono (kS_mono (kS_mono (kS_mono (kS_mono (kS_mono (kS_mono (kS_mono (kS_mono (kS_mono (kS_mono (kS_mono (kS_mono (kS_mono (kS_mono (kS_mono (kS_mono (kS_mono (kS_mono (kS_mono (kS_mono (kS_mono (kS_mono (kS_mono (kS_mono (kS_mono (kS_mono (kS_mono (kS_mono (kS_mono (kS_mono (kS_mono (kS_mono (kS_mono (kS_mono hm)))))))))))))))))))))))))))))))))))))))))))))))))))))
theorem lf_none (n : Nat) : LF n (fun _ => none) := by
  refine ⟨?_, ?_⟩
  · intro a ci k c kd h1 h2 h3
    cases h1
  · intro a ha
    rfl
def K1o (x : Nat) : Ly := kI0 (kS (fun _ => none) x (.inl 12)) x
def K2o (m : Nat) : Ly := kI11 (kS (fun _ => none) m (.inl 23)) m
theorem LE_fresh {x m : Nat} (hm : m = x + 1040) : LE x m (K1o x) (K2o m) := by
  have L1 : LF (x + 1040) (K1o x) := lf0 (lf_raw (lf_none x) (fc_raw 12 (by decide +kernel))) kS_eq
  have L2 : LF (m + 53) (K2o m) := lf11 (lf_raw (lf_none m) (fc_raw 23 (by decide +kernel))) kS_eq
  have e0 : K1o x x = some (.inl 0) := kI0_o
  have e1 : K1o x (x + 1) = some (.inl 1) := L1.1 x 0 0 1 _ e0 (by decide +kernel) (by decide +kernel)
  have e2 : K1o x (x + 1 + 1) = some (.inr (1, 600)) := L1.1 (x + 1) 1 0 1 _ e1 (by decide +kernel) (by decide +kernel)
  refine ⟨L1.1, L2.1, (kI0_KX _ x).1, e2, (kI0_KX _ x).2, e0, kI11_o, fun a k h => ?_, fun a k h => ?_⟩
  · refine Nat.lt_of_not_le fun hh => ?_
    rw [L1.2 a (by omega)] at h; cases h
  · refine Nat.le_of_not_lt fun hh => ?_
    unfold K2o at h
    rw [kI11_old hh, kS_ne2 (by omega)] at h; cases h
set_option maxRecDepth 20000 in
theorem law_body {Γ : CT} {sp : Sp} {hf h0 : Hp} {b L sz : Nat} {xs : Nat → Int32} (X : Ok Γ sp code "AskedNamesLaw" 4 (some .boolean) 16 (some (.int 1)) (sz + 1093) (fun _ => none) hf) (O : Ol Γ 600000 7302250) (Q : AOg Γ) (S : Sx Γ b L xs) (hL : L ≤ 3584) : Go Γ (0, 0) 0 [(0, .ref b)] [] sz (fun _ => none) h0 := by
  refine l_new (idx := 7) (sz := sz) X O (by decide +kernel) ck12 (in_c1 22 rfl rfl) inst0 ini0 def0 raw0 (Nat.le_of_ble_eq_true rfl) (Nat.le_of_ble_eq_true rfl) ?_
  refine g_dup X (by decide +kernel) rfl ?_
  refine l_call (o := sz) (idx := 9) (sz := sz + 1) X O Q (by decide +kernel) miL_9 (by decide) (Nat.le_of_ble_eq_true rfl) (Nat.le_of_ble_eq_true rfl) (Nat.le_of_ble_eq_true rfl) (ci0 kS_eq) ?_
  refine g_astore_n (n := 1) (i := 1) X (by decide +kernel) rfl (by decide) [1, 0] rfl ?_
  refine l_new (idx := 10) (sz := sz + 1040) X O (by decide +kernel) ck23 (in_c5 193 rfl rfl) inst11 ini11 def11 raw11 (Nat.le_of_ble_eq_true rfl) (Nat.le_of_ble_eq_true rfl) ?_
  refine g_dup X (by decide +kernel) rfl ?_
  refine l_call (o := sz + 1040) (idx := 12) (sz := sz + 1040 + 1) X O Q (by decide +kernel) miL_12 (by decide) (Nat.le_of_ble_eq_true rfl) (Nat.le_of_ble_eq_true rfl) (Nat.le_of_ble_eq_true rfl) (ci11 kS_eq) ?_
  refine g_astore_n (n := 2) (i := 2) X (by decide +kernel) rfl (by decide) [1, 2, 0] rfl ?_
  refine g_iconst (n := 0) (x := nI 0) X (by decide +kernel) (by decide) ?_
  refine g_istore_n (n := 3) (i := 3) X (by decide +kernel) rfl (by decide) [1, 2, 3, 0] rfl ?_
  have vx := XX_fresh (zr h0 sz) (x := sz) (m := sz + 1040) rfl
  generalize hI11 (zr (hI0 (zr h0 sz) sz) (sz + 1040)) (sz + 1040) = hh at vx ⊢
  refine g_weak (K' := mgK (sz + 1040) (K1o sz) (K2o (sz + 1040))) (h' := mg (sz + 1040) hh hh) (fun q k hq => ⟨?_, fun c j => ?_⟩) ?_
  · unfold mgK at hq
    by_cases hm : q < sz + 1040
    · rw [if_pos hm] at hq
      rw [kI11_old hm, kS_ne2 (by omega)]
      exact hq
    · rw [if_neg hm] at hq
      exact kI11_mono (kS_mono (fun a k h => by cases h)) q k hq
  · by_cases hm : q < sz + 1040
    · rw [mg_lo hm]
    · rw [mg_hi hm]
  · exact law_loop X O S hL (LE_fresh rfl) ⟨Nat.le_of_ble_eq_true rfl, Nat.le_of_ble_eq_true rfl⟩ (L + 1) 0 hh hh (by omega) (by omega) vx
