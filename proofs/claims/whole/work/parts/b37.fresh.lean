/-! what the constructors leave: the heap -/
section FreshT
theorem hI1_cTr (h : Hp) (o : Nat) : cTr o (hI1 h o) := by
  have f2 : ∀ (h : Hp) (a b k : Nat), a < b → (hI2 h b).2.2 a k = h.2.2 a k := fun h a b k hb => (hI2_old hb).2.2 k
  have f3 : ∀ (h : Hp) (a b k : Nat), a < b → (hI3 h b).2.2 a k = h.2.2 a k := fun h a b k hb => (hI3_old hb).2.2 k
  have f4 : ∀ (h : Hp) (a b k : Nat), a < b → (hI4 h b).2.2 a k = h.2.2 a k := fun h a b k hb => (hI4_old hb).2.2 k
  have z0 : (0 : Int32).toNatClampNeg = 0 := rfl
  have z1 : (1 : Int32).toNatClampNeg = 1 := rfl
  intro i hi
  have : i = 0 ∨ i = 1 := by omega
  unfold hI1
  generalize hI2 = g2 at f2 ⊢
  generalize hI3 = g3 at f3 ⊢
  generalize hI4 = g4 at f4 ⊢
  rw [z0, z1]
  rcases this with rfl | rfl
  all_goals refine ⟨?_, ?_, ?_⟩
  all_goals repeat (first | rw [sR_e] | rw [sR_x (by omega)] | rw [zr_x (by omega)] | rw [sI_x] | rw [f4 _ _ _ _ (by omega)] | rw [f3 _ _ _ _ (by omega)] | rw [f2 _ _ _ _ (by omega)])
theorem hI1_int (h : Hp) (o : Nat) : (hI1 h o).1 o 1 = 0 ∧ (hI1 h o).1 o 2 = 0 ∧ (hI1 h o).1 o 3 = -1 ∧ ∀ s, (hI1 h o).1 (o + 2) s = 0 := by
  have f2 : ∀ (h : Hp) (a b k : Nat), a < b → (hI2 h b).1 a k = h.1 a k := fun h a b k hb => (hI2_old hb).1 k
  have f3 : ∀ (h : Hp) (a b k : Nat), a < b → (hI3 h b).1 a k = h.1 a k := fun h a b k hb => (hI3_old hb).1 k
  have f4 : ∀ (h : Hp) (a b k : Nat), a < b → (hI4 h b).1 a k = h.1 a k := fun h a b k hb => (hI4_old hb).1 k
  unfold hI1
  generalize hI2 = g2 at f2 ⊢
  generalize hI3 = g3 at f3 ⊢
  generalize hI4 = g4 at f4 ⊢
  refine ⟨?_, ?_, ?_, fun s => ?_⟩
  all_goals repeat (first | exact rI_e | exact zr_z | rw [sR_i] | rw [zr_i (by omega)] | rw [rI_n (by omega)] | rw [f4 _ _ _ _ (by omega)] | rw [f3 _ _ _ _ (by omega)] | rw [f2 _ _ _ _ (by omega)])
end FreshT
section FreshC
theorem hE_keep {o : Nat} : ∀ (d i : Nat) (h : Hp) (j : Nat), j < i → (hE o d i h).2.2 (o + 14) j = h.2.2 (o + 14) j ∧ (hE o d i h).2.2 (o + 15) j = h.2.2 (o + 15) j := by
  intro d
  induction d with
  | zero => intro i h j _; exact ⟨rfl, rfl⟩
  | succ d ih =>
    intro i h j hj
    obtain ⟨e1, e2⟩ := ih (i + 1) (sR (hI7 (zr (sR (hI6 (zr h (o + 23 + 2 * i)) (o + 23 + 2 * i)) (o + 14) i (some (o + 23 + 2 * i))) (o + 23 + 2 * i + 1)) (o + 23 + 2 * i + 1)) (o + 15) i (some (o + 23 + 2 * i + 1))) j (by omega)
    refine ⟨e1.trans ?_, e2.trans ?_⟩
    · rw [sR_x (by omega), (hI7_old (by omega)).2.2, zr_x (by omega), sR_x (by omega), (hI6_old (by omega)).2.2, zr_x (by omega)]
    · rw [sR_x (by omega), (hI7_old (by omega)).2.2, zr_x (by omega), sR_x (by omega), (hI6_old (by omega)).2.2, zr_x (by omega)]
theorem hE_at {o : Nat} : ∀ (d i : Nat) (h : Hp) (j : Nat), i ≤ j → j < i + d → (hE o d i h).2.2 (o + 14) j = some (o + 23 + 2 * j) ∧ (hE o d i h).2.2 (o + 15) j = some (o + 24 + 2 * j) := by
  intro d
  induction d with
  | zero => intro i h j h1 h2; omega
  | succ d ih =>
    intro i h j h1 h2
    by_cases hj : j = i
    · subst hj
      obtain ⟨e1, e2⟩ := hE_keep d (j + 1) (sR (hI7 (zr (sR (hI6 (zr h (o + 23 + 2 * j)) (o + 23 + 2 * j)) (o + 14) j (some (o + 23 + 2 * j))) (o + 23 + 2 * j + 1)) (o + 23 + 2 * j + 1)) (o + 15) j (some (o + 23 + 2 * j + 1))) j (by omega)
      refine ⟨e1.trans ?_, e2.trans ?_⟩
      · rw [sR_x (by omega), (hI7_old (by omega)).2.2, zr_x (by omega), sR_e]
      · rw [sR_e]; congr 1; omega
    · exact ih (i + 1) _ j (by omega) (by omega)
theorem hC_keep {o : Nat} : ∀ (d i : Nat) (h : Hp) (j : Nat), j < i → (hC o d i h).2.2 (o + 20) j = h.2.2 (o + 20) j := by
  intro d
  induction d with
  | zero => intro i h j _; rfl
  | succ d ih =>
    intro i h j hj
    refine (ih (i + 1) (sR (hI8 (zr h (o + 743 + 4 * i)) (o + 743 + 4 * i)) (o + 20) i (some (o + 743 + 4 * i))) j (by omega)).trans ?_
    rw [sR_x (by omega), (hI8_old (by omega)).2.2, zr_x (by omega)]
theorem hC_at {o : Nat} : ∀ (d i : Nat) (h : Hp) (j : Nat), i ≤ j → j < i + d → (hC o d i h).2.2 (o + 20) j = some (o + 743 + 4 * j) := by
  intro d
  induction d with
  | zero => intro i h j h1 h2; omega
  | succ d ih =>
    intro i h j h1 h2
    by_cases hj : j = i
    · subst hj
      refine (hC_keep d (j + 1) (sR (hI8 (zr h (o + 743 + 4 * j)) (o + 743 + 4 * j)) (o + 20) j (some (o + 743 + 4 * j))) j (by omega)).trans ?_
      rw [sR_e]
    · exact ih (i + 1) _ j (by omega) (by omega)
theorem hD_keep {o : Nat} : ∀ (d i : Nat) (h : Hp) (j : Nat), j < i → (hD o d i h).2.2 (o + 21) j = h.2.2 (o + 21) j := by
  intro d
  induction d with
  | zero => intro i h j _; rfl
  | succ d ih =>
    intro i h j hj
    refine (ih (i + 1) (sR (hI9 (zr h (o + 767 + i)) (o + 767 + i)) (o + 21) i (some (o + 767 + i))) j (by omega)).trans ?_
    rw [sR_x (by omega), (hI9_old (by omega)).2.2, zr_x (by omega)]
theorem hD_at {o : Nat} : ∀ (d i : Nat) (h : Hp) (j : Nat), i ≤ j → j < i + d → (hD o d i h).2.2 (o + 21) j = some (o + 767 + j) := by
  intro d
  induction d with
  | zero => intro i h j h1 h2; omega
  | succ d ih =>
    intro i h j h1 h2
    by_cases hj : j = i
    · subst hj
      refine (hD_keep d (j + 1) (sR (hI9 (zr h (o + 767 + j)) (o + 767 + j)) (o + 21) j (some (o + 767 + j))) j (by omega)).trans ?_
      rw [sR_e]
    · exact ih (i + 1) _ j (by omega) (by omega)
theorem hI10_cX (h : Hp) (o : Nat) : cX o (hI10 h o) := by
  unfold hI10
  refine ⟨⟨fun i => i, fun i hi => ⟨hi, ?_⟩, fun i j _ _ e => e⟩, ⟨fun i => i, fun i hi => ⟨hi, ?_⟩, fun i j _ _ e => e⟩, fun i hi => ?_, fun i hi => ?_⟩
  · rw [(hD_old 60 0 _ (by omega) (by omega)).2.2, (hC_old 6 0 _ (by omega) (by omega)).2.2]
    exact (hE_at 360 0 _ i (by omega) (by omega)).1
  · rw [(hD_old 60 0 _ (by omega) (by omega)).2.2, (hC_old 6 0 _ (by omega) (by omega)).2.2]
    exact (hE_at 360 0 _ i (by omega) (by omega)).2
  · rw [(hD_old 60 0 _ (by omega) (by omega)).2.2]
    exact hC_at 6 0 _ i (by omega) (by omega)
  · exact hD_at 60 0 _ i (by omega) (by omega)
end FreshC
section FreshN
/-- what AskedNames' constructor leaves of the heap -/
theorem hI0_fresh (h : Hp) (x : Nat) : (∀ z, z < 4 → cTr (tA x z) (hI0 h x)) ∧ cX (x + 210) (hI0 h x) ∧ ((hI0 h x).1 (x + 1) 1 = 0 ∧ (hI0 h x).1 (x + 1) 2 = 0 ∧ (hI0 h x).1 (x + 1) 3 = -1 ∧ ∀ s, (hI0 h x).1 (x + 1 + 2) s = 0) ∧ (∀ k, k < 3 → (hI0 h x).2.2 (x + 47) k = some (tA x (k + 1)) ∧ (hI0 h x).1 (x + 186) k = 0) := by
  have f1 : ∀ (h : Hp) (a b k : Nat), a < b → (hI1 h b).2.2 a k = h.2.2 a k := fun h a b k hb => (hI1_old hb).2.2 k
  have f5 : ∀ (h : Hp) (a b k : Nat), a < b → (hI5 h b).2.2 a k = h.2.2 a k := fun h a b k hb => (hI5_old hb).2.2 k
  have f10 : ∀ (h : Hp) (a b k : Nat), a < b → (hI10 h b).2.2 a k = h.2.2 a k := fun h a b k hb => (hI10_old hb).2.2 k
  have i1 : ∀ (h : Hp) (a b k : Nat), a < b → (hI1 h b).1 a k = h.1 a k := fun h a b k hb => (hI1_old hb).1 k
  have i5 : ∀ (h : Hp) (a b k : Nat), a < b → (hI5 h b).1 a k = h.1 a k := fun h a b k hb => (hI5_old hb).1 k
  have i10 : ∀ (h : Hp) (a b k : Nat), a < b → (hI10 h b).1 a k = h.1 a k := fun h a b k hb => (hI10_old hb).1 k
  have z0 : (0 : Int32).toNatClampNeg = 0 := rfl
  have z1 : (1 : Int32).toNatClampNeg = 1 := rfl
  have z2 : (2 : Int32).toNatClampNeg = 2 := rfl
  have tr : ∀ (h' h'' : Hp) (t : Nat), cTr t h' → (∀ a k, t < a → a < t + 46 → h''.2.2 a k = h'.2.2 a k) → cTr t h'' := fun h' h'' t c e i hi => by
    obtain ⟨c1, c2, c3⟩ := c i hi
    exact ⟨by rw [e _ _ (by omega) (by omega)]; exact c1, by rw [e _ _ (by omega) (by omega)]; exact c2, by rw [e _ _ (by omega) (by omega)]; exact c3⟩
  have T1 := hI1_cTr
  have T2 := hI1_int
  have T3 := hI10_cX
  unfold hI0
  generalize hI1 = g1 at f1 i1 T1 T2 ⊢
  generalize hI5 = g5 at f5 i5 ⊢
  generalize hI10 = g10 at f10 i10 T3 ⊢
  rw [z0, z1, z2]
  refine ⟨fun z hz => ?_, ?_, ⟨?_, ?_, ?_, fun s => ?_⟩, fun k hk => ⟨?_, ?_⟩⟩
  · have : z = 0 ∨ z = 1 ∨ z = 2 ∨ z = 3 := by omega
    rcases this with rfl | rfl | rfl | rfl
    · refine tr _ _ _ (T1 (zr h (x + 1)) (x + 1)) (fun a k h1 h2 => ?_)
      have h1 : x + 1 < a := h1
      have h2 : a < x + 1 + 46 := h2
      repeat (first | rw [sR_x (by omega)] | rw [zr_x (by omega)] | rw [f10 _ _ _ _ (by omega)] | rw [f5 _ _ _ _ (by omega)] | rw [f1 _ _ _ _ (by omega)])
    · refine tr _ _ _ (T1 (zr (zr (sR (g1 (zr h (x + 1)) (x + 1)) x 0 (some (x + 1))) (x + 47)) (x + 48)) (x + 48)) (fun a k h1 h2 => ?_)
      have h1 : x + 48 < a := h1
      have h2 : a < x + 48 + 46 := h2
      repeat (first | rw [sR_x (by omega)] | rw [zr_x (by omega)] | rw [f10 _ _ _ _ (by omega)] | rw [f5 _ _ _ _ (by omega)] | rw [f1 _ _ _ _ (by omega)])
    · refine tr _ _ _ (T1 (zr (sR (g1 (zr (zr (sR (g1 (zr h (x + 1)) (x + 1)) x 0 (some (x + 1))) (x + 47)) (x + 48)) (x + 48)) (x + 47) 0 (some (x + 48))) (x + 94)) (x + 94)) (fun a k h1 h2 => ?_)
      have h1 : x + 94 < a := h1
      have h2 : a < x + 94 + 46 := h2
      repeat (first | rw [sR_x (by omega)] | rw [zr_x (by omega)] | rw [f10 _ _ _ _ (by omega)] | rw [f5 _ _ _ _ (by omega)] | rw [f1 _ _ _ _ (by omega)])
    · refine tr _ _ _ (T1 (zr (sR (g1 (zr (sR (g1 (zr (zr (sR (g1 (zr h (x + 1)) (x + 1)) x 0 (some (x + 1))) (x + 47)) (x + 48)) (x + 48)) (x + 47) 0 (some (x + 48))) (x + 94)) (x + 94)) (x + 47) 1 (some (x + 94))) (x + 140)) (x + 140)) (fun a k h1 h2 => ?_)
      have h1 : x + 140 < a := h1
      have h2 : a < x + 140 + 46 := h2
      repeat (first | rw [sR_x (by omega)] | rw [zr_x (by omega)] | rw [f10 _ _ _ _ (by omega)] | rw [f5 _ _ _ _ (by omega)] | rw [f1 _ _ _ _ (by omega)])
  · skip
    have e : ∀ (H : Hp) (a k : Nat), x + 210 ≤ a → a < x + 1037 → (sR (zr (sR (zr (sR (zr (sR (g10 H (x + 210)) x 4 (some (x + 210))) (x + 1037)) x 5 (some (x + 1037))) (x + 1038)) x 6 (some (x + 1038))) (x + 1039)) x 7 (some (x + 1039))).2.2 a k = (g10 H (x + 210)).2.2 a k := fun H a k h1 h2 => by
      rw [sR_x (by omega), zr_x (by omega), sR_x (by omega), zr_x (by omega), sR_x (by omega), zr_x (by omega), sR_x (by omega)]
    obtain ⟨⟨p, p1, p2⟩, ⟨q, q1, q2⟩, u1, u2⟩ := T3 (zr (sR (g5 (zr (sR (zr (sR (sR (g1 (zr (sR (g1 (zr (sR (g1 (zr (zr (sR (g1 (zr h (x + 1)) (x + 1)) x 0 (some (x + 1))) (x + 47)) (x + 48)) (x + 48)) (x + 47) 0 (some (x + 48))) (x + 94)) (x + 94)) (x + 47) 1 (some (x + 94))) (x + 140)) (x + 140)) (x + 47) 2 (some (x + 140))) x 1 (some (x + 47))) (x + 186)) x 2 (some (x + 186))) (x + 187)) (x + 187)) x 3 (some (x + 187))) (x + 210)) (x + 210)
    refine ⟨⟨p, fun i hi => ⟨(p1 i hi).1, ?_⟩, p2⟩, ⟨q, fun i hi => ⟨(q1 i hi).1, ?_⟩, q2⟩, fun i hi => ?_, fun i hi => ?_⟩
    · exact (e _ _ _ (by omega) (by omega)).trans (p1 i hi).2
    · exact (e _ _ _ (by omega) (by omega)).trans (q1 i hi).2
    · exact (e _ _ _ (by omega) (by omega)).trans (u1 i hi)
    · exact (e _ _ _ (by omega) (by omega)).trans (u2 i hi)
  · skip
    repeat (first | rw [sR_i] | rw [zr_i (by omega)] | rw [i10 _ _ _ _ (by omega)] | rw [i5 _ _ _ _ (by omega)] | rw [i1 _ _ _ _ (by omega)])
    exact (T2 _ _).1
  · skip
    repeat (first | rw [sR_i] | rw [zr_i (by omega)] | rw [i10 _ _ _ _ (by omega)] | rw [i5 _ _ _ _ (by omega)] | rw [i1 _ _ _ _ (by omega)])
    exact (T2 _ _).2.1
  · skip
    repeat (first | rw [sR_i] | rw [zr_i (by omega)] | rw [i10 _ _ _ _ (by omega)] | rw [i5 _ _ _ _ (by omega)] | rw [i1 _ _ _ _ (by omega)])
    exact (T2 _ _).2.2.1
  · skip
    repeat (first | rw [sR_i] | rw [zr_i (by omega)] | rw [i10 _ _ _ _ (by omega)] | rw [i5 _ _ _ _ (by omega)] | rw [i1 _ _ _ _ (by omega)])
    exact (T2 _ _).2.2.2 s
  · have : k = 0 ∨ k = 1 ∨ k = 2 := by omega
    rcases this with rfl | rfl | rfl
    all_goals repeat (first | rw [sR_e] | rw [sR_x (by omega)] | rw [zr_x (by omega)] | rw [f10 _ _ _ _ (by omega)] | rw [f5 _ _ _ _ (by omega)] | rw [f1 _ _ _ _ (by omega)])
    all_goals rfl
  · skip
    repeat (first | exact zr_z | rw [sR_i] | rw [zr_i (by omega)] | rw [i10 _ _ _ _ (by omega)] | rw [i5 _ _ _ _ (by omega)] | rw [i1 _ _ _ _ (by omega)])
end FreshN
