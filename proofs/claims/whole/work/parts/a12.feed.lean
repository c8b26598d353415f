/-! feed: both sides alike -/
section Feed
variable {K1 K2 : Ly} {n x m : Nat} {h1 h2 : Hp} {g : Gh} {a1 a2 a3 a4 a5 : Int32}
theorem both_step (w s : Int32) (hs : s = 24 ∨ s = 16 ∨ s = 8 ∨ s = 0) (fu fu' : Nat) (v : XX x h1 m h2) (vg : XG x h1 m h2 g) (hl : g_l g < 600) : ∃ h1' h2' g', f1_append_L3 K1 n (x + 1) w (fu + 1) s h1 = f1_append_L3 K1 n (x + 1) w fu (s + (-8 : Int32)) h1' ∧ f11_four_L3 K2 n m w (fu' + 1) s h2 = f11_four_L3 K2 n m w fu' (s + (-8 : Int32)) h2' ∧ g_l g' = g_l g + 1 ∧ XG x h1' m h2' g' ∧ XX x h1' m h2' := by
  have e0 : ¬ s < 0 := by rcases hs with rfl | rfl | rfl | rfl <;> decide
  have e1 : h1.1 (x + 1) 1 = nI (g_l g) := vg.2.1.1
  have e2 : h2.1 (m + 2) (0 : Int32).toNatClampNeg = nI (g_l g) := vg.2.2.1
  have e3 : ¬ (600 : Int32) ≤ nI (g_l g) := by rw [show (600 : Int32) = nI 600 from rfl]; exact nI_ge hl (by omega)
  have z0 : (0 : Int32).toNatClampNeg = 0 := rfl
  obtain ⟨g', b1, b2, b3⟩ := both_byte v vg hl ((w >>> (s &&& 31)).toInt8.toInt32).toInt8.toInt32 (by simp)
  refine ⟨_, _, g', ?_, ?_, b1, b2, b3⟩
  · rw [f1_append_L3, if_neg e0, e1, if_neg e3, x_in hl (by omega), x_gd, x_lt, x_lt, x_lt, x_cl (by omega), by_eq w s hs, rI_n (by omega), e1, nI_1]
  · rw [f11_four_L3, if_neg e0, e2, x_in (show g_l g < 2400 by omega) (by omega), x_gd, x_lt, x_lt, x_lt, x_cl (by omega), z0, rI_n (by omega), ← z0, e2, nI_1]
theorem both_four (w : Int32) (hn : 5000 ≤ n) (v : XX x h1 m h2) (vg : XG x h1 m h2 g) (hl : g_l g + 4 ≤ 600) : ∃ h1' h2' g', f1_append K1 n (x + 1) w h1 = some h1' ∧ f11_four K2 n m w h2 = some h2' ∧ g_l g' = g_l g + 4 ∧ XG x h1' m h2' g' ∧ XX x h1' m h2' := by
  obtain ⟨n', rfl⟩ : ∃ n', n = n' + 5 := ⟨n - 5, by omega⟩
  obtain ⟨p1, q1, g1, s1, t1, l1, u1, v1⟩ := both_step (K1 := K1) (K2 := K2) (n := n' + 5) w 24 (Or.inl rfl) (n' + 4) (n' + 4) v vg (by omega)
  obtain ⟨p2, q2, g2, s2, t2, l2, u2, v2⟩ := both_step (K1 := K1) (K2 := K2) (n := n' + 5) w 16 (Or.inr (Or.inl rfl)) (n' + 3) (n' + 3) v1 u1 (by omega)
  obtain ⟨p3, q3, g3, s3, t3, l3, u3, v3⟩ := both_step (K1 := K1) (K2 := K2) (n := n' + 5) w 8 (Or.inr (Or.inr (Or.inl rfl))) (n' + 2) (n' + 2) v2 u2 (by omega)
  obtain ⟨p4, q4, g4, s4, t4, l4, u4, v4⟩ := both_step (K1 := K1) (K2 := K2) (n := n' + 5) w 0 (Or.inr (Or.inr (Or.inr rfl))) (n' + 1) (n' + 1) v3 u3 (by omega)
  have em : ((0 : Int32) + (-8 : Int32)) < 0 := by decide
  refine ⟨p4, q4, g4, ?_, ?_, by omega, u4, v4⟩
  · unfold f1_append
    rw [s1, show (24 : Int32) + (-8 : Int32) = 16 from rfl, s2, show (16 : Int32) + (-8 : Int32) = 8 from rfl, s3, show (8 : Int32) + (-8 : Int32) = 0 from rfl, s4, f1_append_L3, if_pos em]
  · unfold f11_four
    rw [t1, show (24 : Int32) + (-8 : Int32) = 16 from rfl, t2, show (16 : Int32) + (-8 : Int32) = 8 from rfl, t3, show (8 : Int32) + (-8 : Int32) = 0 from rfl, t4, f11_four_L3, if_pos em]
end Feed
