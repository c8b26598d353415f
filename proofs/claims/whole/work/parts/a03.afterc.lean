section AfterC
variable {K1 K2 : Ly} {n x m : Nat} {h1 h2 : Hp} {a1 a2 a3 : Int32}
theorem chain7 {A : Nat → Int32} {h : Hp} {T : Option (Int32 × Hp)} {k : Nat} (hk : k < 7) : (if nI k = (0 : Int32) then some (A 0, h) else if nI k = (1 : Int32) then some (A 1, h) else if nI k = (2 : Int32) then some (A 2, h) else if nI k = (3 : Int32) then some (A 3, h) else if nI k = (4 : Int32) then some (A 4, h) else if nI k = (5 : Int32) then some (A 5, h) else if nI k = (6 : Int32) then some (A 6, h) else T) = some (A k, h) := by
  have q : ∀ y : Nat, y < 2147483648 → (nI k = nI y) = (k = y) := fun y hy => x_eq (by omega) hy
  have q0 : (nI k = (0 : Int32)) = (k = 0) := q 0 (by omega)
  have q1 : (nI k = (1 : Int32)) = (k = 1) := q 1 (by omega)
  have q2 : (nI k = (2 : Int32)) = (k = 2) := q 2 (by omega)
  have q3 : (nI k = (3 : Int32)) = (k = 3) := q 3 (by omega)
  have q4 : (nI k = (4 : Int32)) = (k = 4) := q 4 (by omega)
  have q5 : (nI k = (5 : Int32)) = (k = 5) := q 5 (by omega)
  have q6 : (nI k = (6 : Int32)) = (k = 6) := q 6 (by omega)
  simp only [q0, q1, q2, q3, q4, q5, q6]
  rcases (show k = 0 ∨ k = 1 ∨ k = 2 ∨ k = 3 ∨ k = 4 ∨ k = 5 ∨ k = 6 by omega) with rfl | rfl | rfl | rfl | rfl | rfl | rfl <;> rfl
theorem chain9 {A : Nat → Option (Int32 × Hp)} {T : Option (Int32 × Hp)} {a : Int32} (hk : ∀ k : Nat, k < 7 → ¬ a = nI k) : (if a = (0 : Int32) then A 0 else if a = (1 : Int32) then A 1 else if a = (2 : Int32) then A 2 else if a = (3 : Int32) then A 3 else if a = (4 : Int32) then A 4 else if a = (5 : Int32) then A 5 else if a = (6 : Int32) then A 6 else T) = T := by
  have q0 : ¬ a = (0 : Int32) := hk 0 (by omega)
  have q1 : ¬ a = (1 : Int32) := hk 1 (by omega)
  have q2 : ¬ a = (2 : Int32) := hk 2 (by omega)
  have q3 : ¬ a = (3 : Int32) := hk 3 (by omega)
  have q4 : ¬ a = (4 : Int32) := hk 4 (by omega)
  have q5 : ¬ a = (5 : Int32) := hk 5 (by omega)
  have q6 : ¬ a = (6 : Int32) := hk 6 (by omega)
  rw [if_neg q0, if_neg q1, if_neg q2, if_neg q3, if_neg q4, if_neg q5, if_neg q6]
theorem isI_9 {a : Int32} (h : isI a 9) : (∃ k, k < 7 ∧ a = nI k) ∨ a = (7 : Int32) ∨ a = (8 : Int32) := by
  obtain ⟨k, lk, rfl⟩ := isI_of (by omega) h
  rcases (show k < 7 ∨ k = 7 ∨ k = 8 by omega) with h | rfl | rfl
  · exact Or.inl ⟨k, h, rfl⟩
  · exact Or.inr (Or.inl rfl)
  · exact Or.inr (Or.inr rfl)
theorem ne7 : ∀ k : Nat, k < 7 → ¬ (7 : Int32) = nI k := fun k hk hh => by
  have : (nI 7 = nI k) = (7 = k) := x_eq (by omega) (by omega)
  have := this.mp hh
  omega
theorem ne8 : ∀ k : Nat, k < 7 → ¬ (8 : Int32) = nI k := fun k hk hh => by
  have : (nI 8 = nI k) = (8 = k) := x_eq (by omega) (by omega)
  have := this.mp hh
  omega
theorem both_after (kx : KX K1 x) (hn : 5000 ≤ n) (v : XX x h1 m h2) : CC x m (f0_after K1 n x a1 a2 a3 h1) (f11_after K2 n m a1 a2 a3 h2) := by
  obtain ⟨g, vg⟩ := v.2.2.1
  have tr := v.1 0 (by omega)
  have c0 := vg.1.2.1 0 (by omega)
  have c1 := vg.1.2.1 1 (by omega)
  by_cases hi : isI a1 (g_c g 0) ∧ isI a2 (g_c g 1)
  · obtain ⟨i, li, rfl⟩ := isI_of (by omega) hi.1
    obtain ⟨r, lr, rfl⟩ := isI_of (by omega) hi.2
    have rk := (vg.1.2.2.2.1 r lr).1
    have vr := vg.2.1.2.2.2.2.2.2.1 r lr
    rw [show x + 1 + 31 + 4 * r = x + 32 + 4 * r by omega] at vr
    obtain ⟨y, h1', g2, h2', st, f1, f2, f3, f4, f5, f6, f7, f8, f9, f10, f11, f12, f13⟩ := both_lay (K2 := K2) kx hn v vg li lr (Nat.le_refl _)
    have vr' := f11.2.1.2.2.2.2.2.2.1 r lr
    rw [show x + 1 + 31 + 4 * r = x + 32 + 4 * r by omega] at vr'
    have tc := f6.1.1.2.2.2.2.2.2.2.2.2
    have tm := f6.1.2.1.2.2.2.2.2.2.2.2.2
    have tl : ∀ k, k < 6 → h2'.1 m (65 + k) = h1'.1 (x + 210 + 22) k := fun k hk => (tm k hk).trans (tc k hk).symm
    have t0 := tl 0 (by omega)
    have t1 := tl 1 (by omega)
    have t2 := tl 2 (by omega)
    have t3 := tl 3 (by omega)
    have t4 := tl 4 (by omega)
    have t5 := tl 5 (by omega)
    obtain ⟨w7, p7, q7⟩ := both_mean (K2 := K2) (n := n) (b := true) kx.1 hn vr' rk f5 f6 f7
    obtain ⟨w8, p8, q8⟩ := both_mean (K2 := K2) (n := n) (b := false) kx.1 hn vr' rk f5 f6 f7
    have p7 : f0_mean K1 n x (x + 32 + 4 * r) (nI y) 1 h1' = some w7 := p7
    have q7 : f11_mean K2 n m 0 h2' = some w7 := q7
    have p8 : f0_mean K1 n x (x + 32 + 4 * r) (nI y) 0 h1' = some w8 := p8
    have q8 : f11_mean K2 n m 1 h2' = some w8 := q8
    have ms : f11_after K2 n m (nI i) (nI r) a3 h2 = if a3 = (0 : Int32) then some (h1'.1 (x + 210 + 22) 0, h2') else if a3 = (1 : Int32) then some (h1'.1 (x + 210 + 22) 1, h2') else if a3 = (2 : Int32) then some (h1'.1 (x + 210 + 22) 2, h2') else if a3 = (3 : Int32) then some (h1'.1 (x + 210 + 22) 3, h2') else if a3 = (4 : Int32) then some (h1'.1 (x + 210 + 22) 4, h2') else if a3 = (5 : Int32) then some (h1'.1 (x + 210 + 22) 5, h2') else if a3 = (6 : Int32) then some (h1'.1 (x + 210 + 22) 6, h2') else if a3 = (7 : Int32) then f11_after_J111 K2 n m a3 h2' else if a3 = (8 : Int32) then f11_after_J111 K2 n m a3 h2' else some (-2, h2') := by
      unfold f11_after
      rw [x_lt, f2, x_bd, if_neg b_10, f3, x_bp, f4, x_bd, t0, t1, t2, t3, t4, t5, ← f8]
    have cs : f0_after K1 n x (nI i) (nI r) a3 h1 = if a3 < 0 then some (-2, h1) else if a3 ≤ (8 : Int32) then (if (7 : Int32) ≤ a3 then f0_after_J90 K1 n x (x + 32 + 4 * r) (nI y) (if a3 = (7 : Int32) then (1 : Int32) else (0 : Int32)) h1' else gd (inb a3 7) <| some (h1'.1 (x + 210 + 22) a3.toNatClampNeg, h1')) else some (-2, h1) := by
      unfold f0_after
      refine (c_two kx tr vg li lr).trans ?_
      rw [vr.1, f1, x_bd]
    rw [ms, cs]
    clear ms cs t0 t1 t2 t3 t4 t5 tl tc tm
    by_cases h3 : isI a3 9
    · rcases isI_9 h3 with ⟨k, lk, rfl⟩ | rfl | rfl
      · refine ⟨h1'.1 (x + 210 + 22) k, h1', h2', ?_, chain7 (A := fun k => h1'.1 (x + 210 + 22) k) lk, f9⟩
        rw [if_neg (nI_pos (by omega)), if_pos (show nI k ≤ (8 : Int32) by rw [show (8 : Int32) = nI 8 from rfl]; exact nI_le (by omega) (by omega)), if_neg (show ¬ (7 : Int32) ≤ nI k by rw [show (7 : Int32) = nI 7 from rfl]; exact nI_ge (by omega) (by omega)), x_in (by omega) (by omega), x_gd, x_cl (by omega)]
      · refine ⟨w7, h1', h2', ?_, ?_, f9⟩
        · rw [if_neg (show ¬ (7 : Int32) < 0 by decide), if_pos (show (7 : Int32) ≤ 8 by decide), if_pos (show (7 : Int32) ≤ 7 by decide), if_pos rfl]
          unfold f0_after_J90
          rw [p7, x_bp]
        · rw [chain9 ne7 (A := fun k => some (h1'.1 (x + 210 + 22) k, h2')), if_pos rfl]
          unfold f11_after_J111 f11_after_J123
          rw [if_neg (show ¬ (7 : Int32) = 8 by decide), q7, x_bp]
      · refine ⟨w8, h1', h2', ?_, ?_, f9⟩
        · rw [if_neg (show ¬ (8 : Int32) < 0 by decide), if_pos (show (8 : Int32) ≤ 8 by decide), if_pos (show (7 : Int32) ≤ 8 by decide), if_neg (show ¬ (8 : Int32) = 7 by decide)]
          unfold f0_after_J90
          rw [p8, x_bp]
        · rw [chain9 ne8 (A := fun k => some (h1'.1 (x + 210 + 22) k, h2')), if_neg (show ¬ (8 : Int32) = 7 by decide), if_pos rfl]
          unfold f11_after_J111 f11_after_J123
          rw [if_pos rfl, q8, x_bp]
    · have nn : ∀ k : Nat, k < 9 → ¬ a3 = nI k := fun k hk hh => h3 (hh ▸ isI_nI (by omega) hk)
      have n7 : ¬ a3 = (7 : Int32) := nn 7 (by omega)
      have n8 : ¬ a3 = (8 : Int32) := nn 8 (by omega)
      refine ⟨-2, h1, h2', ?_, ?_, f13⟩
      · by_cases hneg : a3 < 0
        · rw [if_pos hneg]
        · obtain ⟨y, hy, rfl⟩ := nI_of hneg
          rw [if_neg hneg, if_neg (show ¬ nI y ≤ (8 : Int32) by rw [show (8 : Int32) = nI 8 from rfl, x_le hy (by omega)]; exact fun hh => h3 (isI_nI (by omega) (by omega)))]
      · rw [chain9 (fun k hk => nn k (by omega)) (A := fun k => some (h1'.1 (x + 210 + 22) k, h2')), if_neg n7, if_neg n8]
  · have ch0 : ChM RL m h2 (sI h2 m 0 0) := ChM.F (by simp [RL]) ChM.rf
    obtain ⟨k1, e1, ch1⟩ := m_layNo (K2 := K2) (n := n) (vg.2.2.kp ch0 (by decide)) vg.1 hi
    refine ⟨-2, h1, k1, ?_, ?_, v.z (ch0.tr ch1)⟩
    · unfold f0_after
      exact c_twoNo kx tr vg hi
    · unfold f11_after
      rw [x_lt, e1, x_bd, if_pos rfl]
end AfterC
