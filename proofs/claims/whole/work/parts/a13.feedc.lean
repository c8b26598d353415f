section FeedC
variable {K1 K2 : Ly} {n x m : Nat} {h1 h2 : Hp} {a1 a2 a3 a4 a5 : Int32}
theorem both_feed (hn : 5000 ≤ n) (v : XX x h1 m h2) : CC x m (f0_feed K1 n x a1 a2 a3 a4 a5 h1) (f11_feed K2 n m a1 a2 a3 a4 a5 h2) := by
  obtain ⟨g, vg⟩ := v.2.2.1
  have ch0 : ChM RL m h2 (sI h2 m 0 0) := ChM.F (by simp [RL]) ChM.rf
  have vz := v.z ch0
  have gz : XG x h1 m (sI h2 m 0 0) g := ⟨vg.1, vg.2.1, vg.2.2.kp ch0 (by decide)⟩
  have l6 := vg.1.1.1
  have e1 : h1.1 (x + 1) 1 = nI (g_l g) := vg.2.1.1
  have e2 : (sI h2 m 0 0).1 (m + 2) (0 : Int32).toNatClampNeg = nI (g_l g) := gz.2.2.1
  have e3 : (nI (g_l g) ≤ (580 : Int32)) = (g_l g ≤ 580) := x_le (ab := 580) (by omega) (by omega)
  have e4 : (nI (g_l g) + (20 : Int32) ≤ (600 : Int32)) = (g_l g + 20 ≤ 600) := by
    rw [show (20 : Int32) = nI 20 from rfl, nI_add]
    exact x_le (ab := 600) (by omega) (by omega)
  by_cases hl : g_l g ≤ 580
  · obtain ⟨p1, q1, g1, s1, t1, l1, u1, v1⟩ := both_four (K1 := K1) (K2 := K2) (n := n) a1 hn vz gz (by omega)
    obtain ⟨p2, q2, g2, s2, t2, l2, u2, v2⟩ := both_four (K1 := K1) (K2 := K2) (n := n) a2 hn v1 u1 (by omega)
    obtain ⟨p3, q3, g3, s3, t3, l3, u3, v3⟩ := both_four (K1 := K1) (K2 := K2) (n := n) a3 hn v2 u2 (by omega)
    obtain ⟨p4, q4, g4, s4, t4, l4, u4, v4⟩ := both_four (K1 := K1) (K2 := K2) (n := n) a4 hn v3 u3 (by omega)
    obtain ⟨p5, q5, g5, s5, t5, l5, u5, v5⟩ := both_four (K1 := K1) (K2 := K2) (n := n) a5 hn v4 u4 (by omega)
    have f1 : p5.1 (x + 1) 1 = nI (g_l g5) := u5.2.1.1
    have f2 : q5.1 (m + 2) (0 : Int32).toNatClampNeg = nI (g_l g5) := u5.2.2.1
    refine ⟨nI (g_l g5), p5, q5, ?_, ?_, v5⟩
    · unfold f0_feed
      rw [e1, if_pos (by rw [e3]; exact hl), s1, x_bp, s2, x_bp, s3, x_bp, s4, x_bp, s5, x_bp, f1]
    · unfold f11_feed
      rw [x_lt, e2, if_pos (by rw [e4]; omega), t1, x_bp, t2, x_bp, t3, x_bp, t4, x_bp, t5, x_bp, f2]
  · refine ⟨-1, h1, _, ?_, ?_, vz⟩
    · unfold f0_feed
      rw [e1, if_neg (by rw [e3]; exact hl)]
    · unfold f11_feed
      rw [x_lt, e2, if_neg (by rw [e4]; omega)]
end FeedC
