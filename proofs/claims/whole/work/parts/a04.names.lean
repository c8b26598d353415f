/-! what is a name, on both sides -/
def isNm : Nat → Nat → Bool
  | 0, w => decide (w = 0)
  | t + 1, w => if w = 0 then true else if w % 27 = 0 then false else isNm t (w / 27)
theorem isNm_lt : ∀ (t w : Nat), isNm t w = true → w < 27 ^ t := by
  intro t
  induction t with
  | zero => intro w h; simp [isNm] at h; simp [h]
  | succ t ih =>
    intro w h
    have p : 0 < 27 ^ (t + 1) := Nat.pow_pos (by omega)
    simp only [isNm] at h
    by_cases h0 : w = 0
    · omega
    rw [if_neg h0] at h
    by_cases h1 : w % 27 = 0
    · rw [if_pos h1] at h; cases h
    rw [if_neg h1] at h
    have := ih _ h
    rw [Nat.div_lt_iff_lt_mul (by omega)] at this
    rw [Nat.pow_succ]; exact this
section Names
variable {K1 K2 : Ly} {n : Nat} {h1 h2 : Hp} {a : Int32}
theorem cnm {w0 : Nat} (p0 : 0 < w0) (l0 : w0 < 2147483648) : ∀ (t w fu : Nat), t ≤ 4 → t < fu → w < 2147483648 → f0_isName_L4 K1 n (nI w0) h1 fu (nI w) (nI (4 - t)) = some (if isNm t w = true then 1 else 0) := by
  have e0 : ¬ nI w0 ≤ (0 : Int32) := nI_nle (by omega) (by omega)
  have z : ∀ w : Nat, w < 2147483648 → (nI w = (0 : Int32)) = (w = 0) := fun w hw => x_eq (ab := 0) hw (by omega)
  intro t
  induction t with
  | zero =>
    intro w fu ht hf hw
    obtain ⟨fu, rfl⟩ : ∃ g, fu = g + 1 := ⟨fu - 1, by omega⟩
    have e1 : (4 : Int32) ≤ nI (4 - 0) := by decide
    simp only [f0_isName_L4, if_pos e1, f0_isName_J33, if_neg e0, z w hw, isNm, decide_eq_true_eq]
  | succ t ih =>
    intro w fu ht hf hw
    obtain ⟨fu, rfl⟩ : ∃ g, fu = g + 1 := ⟨fu - 1, by omega⟩
    have e1 : ¬ (4 : Int32) ≤ nI (4 - (t + 1)) := by rw [show (4 : Int32) = nI 4 from rfl]; exact nI_ge (by omega) (by omega)
    by_cases hz : w = 0
    · subst hz
      have e2 : nI 0 ≤ (0 : Int32) := by decide
      have e3 : nI 0 = (0 : Int32) := rfl
      simp only [f0_isName_L4, if_neg e1, if_pos e2, f0_isName_J33, if_neg e0, if_pos e3, isNm, if_true]
    · have e2 : ¬ nI w ≤ (0 : Int32) := nI_nle (by omega) (by omega)
      have e4 : nI w / (27 : Int32) = nI (w / 27) := by rw [show (27 : Int32) = nI 27 from rfl]; exact pk_div hw (by omega) (by omega)
      have e3 : nI w - nI (w / 27) * (27 : Int32) = nI (w % 27) := by rw [← e4, show (27 : Int32) = nI 27 from rfl]; exact pk_rem hw (by omega) (by omega)
      simp only [f0_isName_L4, if_neg e1, if_neg e2, e3, e4, x_lt, nI_1, z (w % 27) (by omega), isNm, if_neg hz]
      by_cases hm : w % 27 = 0
      · rw [if_pos hm, if_pos hm]; rfl
      · rw [if_neg hm, if_neg hm, show 4 - (t + 1) + 1 = 4 - t by omega, ih (w / 27) fu (by omega) (by omega) (by omega)]
theorem mltG : ∀ (t w s fu : Nat), w < 27 ^ t → t < fu → w < 2147483648 → ∃ c, f11_lettersOf_L4 K2 n h2 fu (nI s) (nI w) = some (nI (s + c)) ∧ c ≤ t ∧ ∀ u, c ≤ u ↔ w < 27 ^ u := by
  intro t
  induction t with
  | zero =>
    intro w s fu hw hf l
    obtain ⟨fu, rfl⟩ : ∃ g, fu = g + 1 := ⟨fu - 1, by omega⟩
    rw [Nat.pow_zero] at hw
    obtain rfl : w = 0 := by omega
    exact ⟨0, mltr_0, by omega, fun u => ⟨fun _ => Nat.pow_pos (by omega), fun _ => by omega⟩⟩
  | succ t ih =>
    intro w s fu hw hf l
    obtain ⟨fu, rfl⟩ : ∃ g, fu = g + 1 := ⟨fu - 1, by omega⟩
    by_cases hz : w = 0
    · subst hz
      exact ⟨0, mltr_0, by omega, fun u => ⟨fun _ => Nat.pow_pos (by omega), fun _ => by omega⟩⟩
    · rw [Nat.pow_succ, ← Nat.div_lt_iff_lt_mul (by omega)] at hw
      obtain ⟨c, c1, c2, c3⟩ := ih (w / 27) (s + 1) fu hw (by omega) (by omega)
      refine ⟨c + 1, ?_, by omega, fun u => ?_⟩
      · rw [mltr_st l hz, c1, show s + (c + 1) = s + 1 + c by omega]
      · cases u with
        | zero => rw [Nat.pow_zero]; omega
        | succ u => rw [Nat.pow_succ, ← Nat.div_lt_iff_lt_mul (by omega), ← c3 u]; omega
theorem mnm0 {fu : Nat} : f11_isName_L12 K2 n h2 (fu + 1) 0 a = some 0 := by
  simp only [f11_isName_L12, if_true]
  split <;> rfl
theorem mnm : ∀ (t w fu : Nat), w < 27 ^ t → t + 1 < fu → w < 2147483648 → f11_isName_L12 K2 n h2 fu 1 (nI w) = some (if isNm t w = true then 1 else 0) := by
  have z : ∀ w : Nat, w < 2147483648 → (nI w = (0 : Int32)) = (w = 0) := fun w hw => x_eq (ab := 0) hw (by omega)
  have e9 : nI 0 ≤ (0 : Int32) := by decide
  intro t
  induction t with
  | zero =>
    intro w fu hw hf l
    obtain ⟨fu, rfl⟩ : ∃ g, fu = g + 1 := ⟨fu - 1, by omega⟩
    rw [Nat.pow_zero] at hw
    obtain rfl : w = 0 := by omega
    simp only [f11_isName_L12, if_pos e9, isNm]
    rfl
  | succ t ih =>
    intro w fu hw hf l
    obtain ⟨fu, rfl⟩ : ∃ g, fu = g + 1 := ⟨fu - 1, by omega⟩
    by_cases hz : w = 0
    · subst hz
      simp only [f11_isName_L12, if_pos e9, isNm, if_true]
      rfl
    · have e2 : ¬ nI w ≤ (0 : Int32) := nI_nle (by omega) (by omega)
      have e4 : nI w / (27 : Int32) = nI (w / 27) := by rw [show (27 : Int32) = nI 27 from rfl]; exact pk_div l (by omega) (by omega)
      have e3 : nI w - nI (w / 27) * (27 : Int32) = nI (w % 27) := by rw [← e4, show (27 : Int32) = nI 27 from rfl]; exact pk_rem l (by omega) (by omega)
      rw [Nat.pow_succ, ← Nat.div_lt_iff_lt_mul (by omega)] at hw
      simp only [f11_isName_L12, if_neg e2, if_neg b_10, f11_isName_J32, e3, e4, x_lt, z (w % 27) (by omega), isNm, if_neg hz]
      by_cases hm : w % 27 = 0
      · obtain ⟨fu, rfl⟩ : ∃ g, fu = g + 1 := ⟨fu - 1, by omega⟩
        rw [if_pos hm, if_pos hm, mnm0]; rfl
      · rw [if_neg hm, if_neg hm, ih (w / 27) fu hw (by omega) (by omega)]
theorem both_name (hn : 5000 ≤ n) : (∃ w, a = nI w ∧ 0 < w ∧ w < 531441 ∧ f0_isName K1 n a h1 = some 1 ∧ f11_isName K2 n a h2 = some 1) ∨ (f0_isName K1 n a h1 = some 0 ∧ f11_isName K2 n a h2 = some 0) := by
  obtain ⟨n', rfl⟩ : ∃ n', n = n' + 1 := ⟨n - 1, by omega⟩
  by_cases hz : a ≤ 0
  · refine Or.inr ⟨?_, ?_⟩
    · have e1 : ¬ (4 : Int32) ≤ 0 := by decide
      unfold f0_isName
      simp only [f0_isName_L4, if_neg e1, if_pos hz, f0_isName_J33]
    · unfold f11_isName f11_lettersOf
      simp only [f11_lettersOf_L4, if_pos hz, x_bp, x_lt, show f11_in (0 : Int32) 1 4 = 0 from by decide]
      exact mnm0
  · have hneg : ¬ a < 0 := fun hh => hz (Int32.le_of_lt hh)
    obtain ⟨w, l, rfl⟩ := nI_of hneg
    have p0 : 0 < w := by
      rcases Nat.eq_zero_or_pos w with rfl | h
      · exact absurd (show nI 0 ≤ (0 : Int32) by decide) hz
      · exact h
    have c1 : f0_isName K1 (n' + 1) (nI w) h1 = some (if isNm 4 w = true then 1 else 0) := cnm p0 l 4 w (n' + 1) (by omega) (by omega) l
    obtain ⟨c, d1, d2, d3⟩ := mltG (K2 := K2) (n := n' + 1) (h2 := h2) 7 w 0 (n' + 1) (Nat.lt_of_lt_of_le l (by decide)) (by omega) l
    have d4 := d3 4
    have d0 := d3 0
    rw [Nat.pow_zero] at d0
    rw [show 27 ^ 4 = 531441 from rfl] at d4
    have e1 : f11_in (nI c) 1 4 = if w < 531441 then 1 else 0 := by
      unfold f11_in
      rw [show (1 : Int32) = nI 1 from rfl, show (4 : Int32) = nI 4 from rfl]
      simp only [x_lt' (show c < 2147483648 by omega) (show 1 < 2147483648 by omega), x_lt' (show 4 < 2147483648 by omega) (show c < 2147483648 by omega)]
      rw [if_neg (by omega)]
      by_cases hw : w < 531441
      · rw [if_neg (by omega), if_pos hw]
      · rw [if_pos (by omega), if_neg hw]
    have m1 : f11_isName K2 (n' + 1) (nI w) h2 = f11_isName_L12 K2 (n' + 1) h2 (n' + 1) (if w < 531441 then 1 else 0) (nI w) := by
      have d1' : f11_lettersOf K2 (n' + 1) (nI w) h2 = some (nI (0 + c)) := d1
      unfold f11_isName
      rw [d1', x_bp, x_lt, Nat.zero_add, e1]
    rw [c1, m1]
    by_cases hw : w < 531441
    · rw [if_pos hw, mnm 4 w (n' + 1) hw (by omega) l]
      by_cases hb : isNm 4 w = true
      · exact Or.inl ⟨w, rfl, p0, hw, by rw [if_pos hb], by rw [if_pos hb]⟩
      · exact Or.inr ⟨by rw [if_neg hb], by rw [if_neg hb]⟩
    · have hb : ¬ isNm 4 w = true := fun hh => hw (isNm_lt 4 w hh)
      exact Or.inr ⟨by rw [if_neg hb], by rw [if_neg hw]; exact mnm0⟩
end Names
