section FreshX
theorem zs_i0 (o a j : Nat) : ∀ (l : List (Nat × Nat)) (h : Hp), h.1 a j = 0 → (zs o l h).1 a j = 0 := by
  intro l
  induction l with
  | nil => intro h hh; exact hh
  | cons q l ih =>
    intro h hh
    obtain ⟨f, k⟩ := q
    refine ih _ ?_
    show (zr h (o + k)).1 a j = 0
    by_cases ha : a = o + k
    · rw [ha]; exact zr_z
    · rw [zr_i ha]; exact hh
theorem zs_i1 (o k j : Nat) : ∀ (l : List (Nat × Nat)) (h : Hp), (∃ f, (f, k) ∈ l) → (zs o l h).1 (o + k) j = 0 := by
  intro l
  induction l with
  | nil => intro h ⟨f, hf⟩; cases hf
  | cons q l ih =>
    intro h ⟨f, hf⟩
    obtain ⟨f2, k2⟩ := q
    rcases List.mem_cons.mp hf with e | hf
    · cases e
      refine zs_i0 o _ j l _ ?_
      show (zr h (o + k)).1 (o + k) j = 0
      exact zr_z
    · exact ih _ ⟨f, hf⟩
theorem zs_old (o a : Nat) (ha : a < o) : ∀ (l : List (Nat × Nat)) (h : Hp), (∀ k, (zs o l h).1 a k = h.1 a k) ∧ (∀ k, (zs o l h).2.1 a k = h.2.1 a k) ∧ ∀ k, (zs o l h).2.2 a k = h.2.2 a k := by
  intro l
  induction l with
  | nil => intro h; exact o_rf
  | cons q l ih =>
    intro h
    obtain ⟨f, k⟩ := q
    exact o_tr (ih (sR (zr h (o + k)) o f (some (o + k)))) (o_sR (by omega) (o_zr (by omega) o_rf))
theorem hI11_old {h : Hp} {o a : Nat} (ha : a < o) : (∀ k, (hI11 h o).1 a k = h.1 a k) ∧ (∀ k, (hI11 h o).2.1 a k = h.2.1 a k) ∧ ∀ k, (hI11 h o).2.2 a k = h.2.2 a k := by
  rw [hI11_eq]
  exact o_sI (by omega) (zs_old o a ha ol11 h)
theorem hI11_int (h : Hp) (o : Nat) : (hI11 h o).1 (o + 2) 0 = 0 ∧ (hI11 h o).1 (o + 3) 0 = 0 ∧ (hI11 h o).1 (o + 4) 0 = -1 ∧ (∀ k, (hI11 h o).1 (o + 5) k = 0) ∧ ∀ k, (hI11 h o).1 (o + 52) k = 0 := by
  rw [hI11_eq]
  have z0 : (0 : Int32).toNatClampNeg = 0 := rfl
  rw [z0]
  refine ⟨?_, ?_, ?_, fun k => ?_, fun k => ?_⟩
  · rw [rI_n (by omega)]; exact zs_i1 o 2 0 ol11 h ⟨2, by decide⟩
  · rw [rI_n (by omega)]; exact zs_i1 o 3 0 ol11 h ⟨3, by decide⟩
  · rw [rI_e]
  · rw [rI_n (by omega)]; exact zs_i1 o 5 k ol11 h ⟨5, by decide⟩
  · rw [rI_n (by omega)]; exact zs_i1 o 52 k ol11 h ⟨86, by decide⟩
/-- both objects fresh: the relation stands -/
theorem XX_fresh (h : Hp) {x m : Nat} (hm : m = x + 1040) : XX x (hI11 (zr (hI0 h x) m) m) m (hI11 (zr (hI0 h x) m) m) := by
  obtain ⟨A1, A2, ⟨A3, A4, A5, A6⟩, A7⟩ := hI0_fresh h x
  obtain ⟨B1, B2, B3, B4, B5⟩ := hI11_int (zr (hI0 h x) m) m
  have er : ∀ a k, a < m → (hI11 (zr (hI0 h x) m) m).2.2 a k = (hI0 h x).2.2 a k := fun a k ha => by rw [(hI11_old ha).2.2, zr_x (by omega)]
  have ei : ∀ a k, a < m → (hI11 (zr (hI0 h x) m) m).1 a k = (hI0 h x).1 a k := fun a k ha => by rw [(hI11_old ha).1, zr_i (by omega)]
  generalize hI11 (zr (hI0 h x) m) m = H at *
  refine ⟨fun z hz i hi => ?_, ?_, ⟨(fun _ => 0, 0, 0, -1, fun _ => 0, fun _ _ => 0, fun _ => 0, fun _ _ => 0, fun _ => 0, fun _ _ => 0), ⟨⟨⟨Nat.zero_le _, fun i hi => absurd hi (Nat.not_lt_zero _)⟩, fun s hs => Nat.zero_le _, fun i hi => absurd hi (Nat.not_lt_zero _), fun i hi => absurd hi (Nat.not_lt_zero _), fun i hi => absurd hi (Nat.not_lt_zero _)⟩, ⟨?_, fun i hi => absurd hi (Nat.not_lt_zero _), ?_, ?_, fun s hs => ?_, fun i hi => absurd hi (Nat.not_lt_zero _), fun i hi => absurd hi (Nat.not_lt_zero _), fun i hi => absurd hi (Nat.not_lt_zero _)⟩, ⟨B1, fun i hi => absurd hi (Nat.not_lt_zero _), B2, B3, fun k hk => B4 _, fun i hi => absurd hi (Nat.not_lt_zero _), fun i hi => absurd hi (Nat.not_lt_zero _), fun i hi => absurd hi (Nat.not_lt_zero _)⟩⟩⟩, fun k hk => ⟨?_, ?_, Or.inl ?_⟩⟩
  · have ht : tA x z ≤ x + 140 := by unfold tA; split <;> omega
    obtain ⟨c1, c2, c3⟩ := A1 z hz i hi
    exact ⟨by rw [er _ _ (by omega)]; exact c1, by rw [er _ _ (by omega)]; exact c2, by rw [er _ _ (by omega)]; exact c3⟩
  · obtain ⟨⟨p, p1, p2⟩, ⟨q, q1, q2⟩, u1, u2⟩ := A2
    refine ⟨⟨p, fun i hi => ⟨(p1 i hi).1, ?_⟩, p2⟩, ⟨q, fun i hi => ⟨(q1 i hi).1, ?_⟩, q2⟩, fun i hi => ?_, fun i hi => ?_⟩
    · rw [er _ _ (by omega)]; exact (p1 i hi).2
    · rw [er _ _ (by omega)]; exact (q1 i hi).2
    · rw [er _ _ (by omega)]; exact u1 i hi
    · rw [er _ _ (by omega)]; exact u2 i hi
  · rw [ei _ _ (by omega)]; exact A3
  · rw [ei _ _ (by omega)]; exact A4
  · rw [ei _ _ (by omega)]; exact A5
  · rw [ei _ _ (by omega)]; exact A6 s
  · rw [er _ _ (by omega)]; exact (A7 k hk).1
  · rw [ei _ _ (by omega), (A7 k hk).2, B5]
  · rw [ei _ _ (by omega)]; exact (A7 k hk).2
end FreshX
