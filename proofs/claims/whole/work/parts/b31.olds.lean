theorem o_zr {h h' : Hp} {a b : Nat} (hb : a ≠ b) (q : (∀ k, h'.1 a k = h.1 a k) ∧ (∀ k, h'.2.1 a k = h.2.1 a k) ∧ ∀ k, h'.2.2 a k = h.2.2 a k) : (∀ k, (zr h' b).1 a k = h.1 a k) ∧ (∀ k, (zr h' b).2.1 a k = h.2.1 a k) ∧ ∀ k, (zr h' b).2.2 a k = h.2.2 a k := by
  simp only [zr, if_neg hb]; exact q
theorem o_sI {h h' : Hp} {a b j : Nat} {x : Int32} (hb : a ≠ b) (q : (∀ k, h'.1 a k = h.1 a k) ∧ (∀ k, h'.2.1 a k = h.2.1 a k) ∧ ∀ k, h'.2.2 a k = h.2.2 a k) : (∀ k, (sI h' b j x).1 a k = h.1 a k) ∧ (∀ k, (sI h' b j x).2.1 a k = h.2.1 a k) ∧ ∀ k, (sI h' b j x).2.2 a k = h.2.2 a k :=
  ⟨fun k => by rw [rI_n (by omega)]; exact q.1 k, q.2.1, q.2.2⟩
theorem o_sL {h h' : Hp} {a b j : Nat} {x : Int64} (hb : a ≠ b) (q : (∀ k, h'.1 a k = h.1 a k) ∧ (∀ k, h'.2.1 a k = h.2.1 a k) ∧ ∀ k, h'.2.2 a k = h.2.2 a k) : (∀ k, (sL h' b j x).1 a k = h.1 a k) ∧ (∀ k, (sL h' b j x).2.1 a k = h.2.1 a k) ∧ ∀ k, (sL h' b j x).2.2 a k = h.2.2 a k :=
  ⟨q.1, fun k => by rw [rL_n (by omega)]; exact q.2.1 k, q.2.2⟩
theorem o_sR {h h' : Hp} {a b j : Nat} {x : Option Nat} (hb : a ≠ b) (q : (∀ k, h'.1 a k = h.1 a k) ∧ (∀ k, h'.2.1 a k = h.2.1 a k) ∧ ∀ k, h'.2.2 a k = h.2.2 a k) : (∀ k, (sR h' b j x).1 a k = h.1 a k) ∧ (∀ k, (sR h' b j x).2.1 a k = h.2.1 a k) ∧ ∀ k, (sR h' b j x).2.2 a k = h.2.2 a k :=
  ⟨q.1, q.2.1, fun k => by
    have : ¬ (a = b ∧ k = j) := fun hh => hb hh.1
    simp only [sR, if_neg this]; exact q.2.2 k⟩
theorem o_tr {h h1 h2 : Hp} {a : Nat} (q2 : (∀ k, h2.1 a k = h1.1 a k) ∧ (∀ k, h2.2.1 a k = h1.2.1 a k) ∧ ∀ k, h2.2.2 a k = h1.2.2 a k) (q1 : (∀ k, h1.1 a k = h.1 a k) ∧ (∀ k, h1.2.1 a k = h.2.1 a k) ∧ ∀ k, h1.2.2 a k = h.2.2 a k) : (∀ k, h2.1 a k = h.1 a k) ∧ (∀ k, h2.2.1 a k = h.2.1 a k) ∧ ∀ k, h2.2.2 a k = h.2.2 a k :=
  ⟨fun k => (q2.1 k).trans (q1.1 k), fun k => (q2.2.1 k).trans (q1.2.1 k), fun k => (q2.2.2 k).trans (q1.2.2 k)⟩
theorem hI2_old {h : Hp} {o a : Nat} (ha : a < o) : (∀ k, (hI2 h o).1 a k = h.1 a k) ∧ (∀ k, (hI2 h o).2.1 a k = h.2.1 a k) ∧ ∀ k, (hI2 h o).2.2 a k = h.2.2 a k := by
  unfold hI2
  repeat (first | exact ⟨fun _ => rfl, fun _ => rfl, fun _ => rfl⟩ | refine o_zr (by omega) ?_ | refine o_sI (by omega) ?_ | refine o_sL (by omega) ?_ | refine o_sR (by omega) ?_)
theorem hI3_old {h : Hp} {o a : Nat} (ha : a < o) : (∀ k, (hI3 h o).1 a k = h.1 a k) ∧ (∀ k, (hI3 h o).2.1 a k = h.2.1 a k) ∧ ∀ k, (hI3 h o).2.2 a k = h.2.2 a k := by
  unfold hI3
  repeat (first | exact ⟨fun _ => rfl, fun _ => rfl, fun _ => rfl⟩ | refine o_zr (by omega) ?_ | refine o_sI (by omega) ?_ | refine o_sL (by omega) ?_ | refine o_sR (by omega) ?_)
theorem hI4_old {h : Hp} {o a : Nat} (ha : a < o) : (∀ k, (hI4 h o).1 a k = h.1 a k) ∧ (∀ k, (hI4 h o).2.1 a k = h.2.1 a k) ∧ ∀ k, (hI4 h o).2.2 a k = h.2.2 a k := by
  unfold hI4
  repeat (first | exact ⟨fun _ => rfl, fun _ => rfl, fun _ => rfl⟩ | refine o_zr (by omega) ?_ | refine o_sI (by omega) ?_ | refine o_sL (by omega) ?_ | refine o_sR (by omega) ?_)
theorem hI6_old {h : Hp} {o a : Nat} (ha : a < o) : (∀ k, (hI6 h o).1 a k = h.1 a k) ∧ (∀ k, (hI6 h o).2.1 a k = h.2.1 a k) ∧ ∀ k, (hI6 h o).2.2 a k = h.2.2 a k := by
  unfold hI6
  repeat (first | exact ⟨fun _ => rfl, fun _ => rfl, fun _ => rfl⟩ | refine o_zr (by omega) ?_ | refine o_sI (by omega) ?_ | refine o_sL (by omega) ?_ | refine o_sR (by omega) ?_)
theorem hI7_old {h : Hp} {o a : Nat} (ha : a < o) : (∀ k, (hI7 h o).1 a k = h.1 a k) ∧ (∀ k, (hI7 h o).2.1 a k = h.2.1 a k) ∧ ∀ k, (hI7 h o).2.2 a k = h.2.2 a k := by
  unfold hI7
  repeat (first | exact ⟨fun _ => rfl, fun _ => rfl, fun _ => rfl⟩ | refine o_zr (by omega) ?_ | refine o_sI (by omega) ?_ | refine o_sL (by omega) ?_ | refine o_sR (by omega) ?_)
theorem hI8_old {h : Hp} {o a : Nat} (ha : a < o) : (∀ k, (hI8 h o).1 a k = h.1 a k) ∧ (∀ k, (hI8 h o).2.1 a k = h.2.1 a k) ∧ ∀ k, (hI8 h o).2.2 a k = h.2.2 a k := by
  unfold hI8
  repeat (first | exact ⟨fun _ => rfl, fun _ => rfl, fun _ => rfl⟩ | refine o_zr (by omega) ?_ | refine o_sI (by omega) ?_ | refine o_sL (by omega) ?_ | refine o_sR (by omega) ?_)
theorem hI9_old {h : Hp} {o a : Nat} (ha : a < o) : (∀ k, (hI9 h o).1 a k = h.1 a k) ∧ (∀ k, (hI9 h o).2.1 a k = h.2.1 a k) ∧ ∀ k, (hI9 h o).2.2 a k = h.2.2 a k := by
  unfold hI9
  repeat (first | exact ⟨fun _ => rfl, fun _ => rfl, fun _ => rfl⟩ | refine o_zr (by omega) ?_ | refine o_sI (by omega) ?_ | refine o_sL (by omega) ?_ | refine o_sR (by omega) ?_)
