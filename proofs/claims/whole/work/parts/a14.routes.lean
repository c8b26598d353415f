/-! how many routes a node has, on both sides -/
section Routes
variable {K1 K2 : Ly} {n o m j : Nat} {h1 h2 : Hp} {N : Nat → Nat}
theorem both_routesAt (ok : nOk N) (hn : 5000 ≤ n) (v : vN o h1 N) (vm : vMN m h2 N j) (y : Int32) : ∃ w, f2_routesAt K1 n o y h1 = some w ∧ f11_table_L48 K2 n m y h2 n 0 0 = some (w, h2) := by
  have b3 := ok.2.2.2.1
  have e3 : h1.1 o 3 = nI (N 3) := v.1 3 (by omega)
  have go : ∀ (d i s fu fu' : Nat), i + d = N 3 → d < fu → d < fu' → ∃ w, f2_routesAt_L4 K1 n o y h1 fu (nI s) (nI i) = some w ∧ f11_table_L48 K2 n m y h2 fu' (nI s) (nI i) = some (w, h2) := by
    intro d
    induction d with
    | zero =>
      intro i s fu fu' hi hf hf'
      obtain ⟨fu, rfl⟩ : ∃ g, fu = g + 1 := ⟨fu - 1, by omega⟩
      obtain ⟨fu', rfl⟩ : ∃ g, fu' = g + 1 := ⟨fu' - 1, by omega⟩
      have e1 : nI (N 3) ≤ nI i := nI_le (by omega) (by omega)
      exact ⟨nI s, by rw [f2_routesAt_L4, e3, if_pos e1], by rw [f11_table_L48, mroutes vm, x_bp, if_pos e1]⟩
    | succ d ih =>
      intro i s fu fu' hi hf hf'
      obtain ⟨fu, rfl⟩ : ∃ g, fu = g + 1 := ⟨fu - 1, by omega⟩
      obtain ⟨fu', rfl⟩ : ∃ g, fu' = g + 1 := ⟨fu' - 1, by omega⟩
      have e1 : ¬ nI (N 3) ≤ nI i := nI_ge (by omega) (by omega)
      have e2 := (v.2.2.2.2.1 i (by omega)).1
      have e4 : f11_routeAt K2 n m (nI i) (0 : Int32) h2 = some (nI (N (56 + 4 * i))) := mrouteAt vm (k := i) (w := 0) (by omega)
      rw [f2_routesAt_L4, e3, if_neg e1, x_in (show i < 12 by omega) (by omega), x_gd, x_lt, x_cl (by omega), e2, f11_table_L48, mroutes vm, x_bp, if_neg e1, e4, x_bp, f11_table_J75, x_lt, x_lt, nI_1, nI_1]
      by_cases hc : nI (N (56 + 4 * i)) = y
      · rw [if_pos hc, if_pos hc, nI_1]
        exact ih (i + 1) (s + 1) fu fu' (by omega) (by omega) (by omega)
      · rw [if_neg hc, if_neg hc, l_0, nI_add, Nat.add_zero]
        exact ih (i + 1) s fu fu' (by omega) (by omega) (by omega)
  exact go (N 3) 0 0 n n (by omega) (by omega) (by omega)
end Routes
