/-! the letters of a word, in the class -/
section Letters
variable {K : Ly} {n : Nat} {h : Hp}
theorem cltr_st {a w i fu : Nat} (hw : w < 2147483648) (h0 : w ≠ 0) (hi : i < 4) : f0_lettersOf_L6 K n h (fu + 1) (nI a) (nI w) (nI i) = f0_lettersOf_L6 K n h fu (nI (a + 1)) (nI (w / 27)) (nI (i + 1)) := by
  have e1 : ¬ (4 : Int32) ≤ nI i := by rw [show (4 : Int32) = nI 4 from rfl]; exact nI_ge hi (by omega)
  have e2 : ¬ nI w ≤ 0 := nI_nle (by omega) (by omega)
  rw [f0_lettersOf_L6, if_neg e1, if_neg e2, x_lt, x_lt, x_lt, nI_1, nI_1, x_d27 hw]
theorem cltr_0 {a i fu : Nat} : f0_lettersOf_L6 K n h (fu + 1) (nI a) (nI 0) (nI i) = some (nI a) := by
  rw [f0_lettersOf_L6, if_pos (show nI 0 ≤ (0 : Int32) by decide), ite_self]
theorem cltr {w : Nat} (hw : w < 531441) (hn : 6 ≤ n) : f0_lettersOf K n (nI w) h = some (nI (ltr w)) := by
  obtain ⟨f, hf⟩ : ∃ g, n = g + 5 := ⟨n - 5, by omega⟩
  unfold f0_lettersOf
  rw [l_0]
  generalize hg : n = fu
  rw [hf] at hg
  subst hg
  unfold ltr
  by_cases h0 : w = 0
  · subst h0; rw [if_pos rfl]; exact cltr_0
  rw [if_neg h0, cltr_st (by omega) h0 (by omega)]
  by_cases h1 : w / 27 = 0
  · rw [if_pos h1, h1]; exact cltr_0
  rw [if_neg h1, cltr_st (by omega) h1 (by omega)]
  by_cases h2 : w / 27 / 27 = 0
  · rw [if_pos h2, h2]; exact cltr_0
  rw [if_neg h2, cltr_st (by omega) h2 (by omega)]
  by_cases h3 : w / 27 / 27 / 27 = 0
  · rw [if_pos h3, h3]; exact cltr_0
  rw [if_neg h3, cltr_st (by omega) h3 (by omega), show w / 27 / 27 / 27 / 27 = 0 by omega]; exact cltr_0
end Letters
