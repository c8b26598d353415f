/-! stop, state, stored, entry, why: both sides alike -/
section States
variable {K1 K2 : Ly} {n x m : Nat} {h1 h2 : Hp} {g : Gh} {a a1 a2 a3 a4 a5 a6 : Int32}
theorem XX.z (v : XX x h1 m h2) {g2 : Hp} (q : ChM RL m h2 g2) : XX x h1 m g2 := v.kp (fun _ _ _ => ⟨rfl, rfl⟩) v.2.1 q (by decide)
theorem m_inQ {k q : Nat} (hk : k < 2147483648) (hq : q < 2147483648) : f11_in (nI k) 0 (nI q) = if k ≤ q then 1 else 0 := by
  unfold f11_in
  rw [if_neg (nI_pos hk)]
  simp only [x_lt' hq hk]
  by_cases hc : k ≤ q
  · rw [if_neg (by omega), if_pos hc]
  · rw [if_pos (by omega), if_neg hc]
theorem m_stNo (v : XX x h1 m h2) (vg : XG x h1 m h2 g) (hi : ¬ (isI a1 (g_c g 0) ∧ isI a2 (g_c g 1))) : ∃ g2, f11_layState K2 n m a1 a2 a3 (sI h2 m 0 0) = some (0, g2) ∧ XX x h1 m g2 := by
  have ch0 : ChM RL m h2 (sI h2 m 0 0) := ChM.F (by simp [RL]) ChM.rf
  obtain ⟨k1, e1, ch1⟩ := m_layNo (K2 := K2) (n := n) (vg.2.2.kp ch0 (by decide)) vg.1 hi
  refine ⟨k1, ?_, v.z (ch0.tr ch1)⟩
  unfold f11_layState
  rw [e1, x_bd, if_pos rfl]
theorem m_stOut {i r : Nat} (kx : KX K1 x) (hn : 5000 ≤ n) (v : XX x h1 m h2) (vg : XG x h1 m h2 g) (hi : i < g_c g 0) (hr : r < g_c g 1) (ha : ¬ isI a3 (g_q g r + 1)) : ∃ g2, f11_layState K2 n m (nI i) (nI r) a3 (sI h2 m 0 0) = some (0, g2) ∧ XX x h1 m g2 := by
  have rk := (vg.1.2.2.2.1 r hr).1
  obtain ⟨y, h1', g2, h2', st, f1, f2, f3, f4, f5, f6, f7, f8, f9, f10, f11⟩ := both_lay (K2 := K2) kx hn v vg hi hr (Nat.zero_le _)
  refine ⟨g2, ?_, f10⟩
  have e1 : f11_in a3 0 (nI (g_q g r)) = 0 := by
    by_cases hn : a3 < 0
    · exact m_inG hn
    · obtain ⟨y, hy, rfl⟩ := nI_of hn
      rw [m_inQ hy (by omega), if_neg (fun hh => ha (isI_nI (by omega) (by omega)))]
  unfold f11_layState
  rw [f2, x_bd, if_neg b_10, f3, x_bp, e1, if_pos rfl]
theorem m_stIn {r k y : Nat} {g2 h2' : Hp} (hk : k ≤ g_q g r) (hq : g_q g r ≤ 40) (hy : y ≤ k) (f2 : f11_lay K2 n m a1 a2 (sI h2 m 0 0) = some (1, g2)) (f3 : f11_deeds K2 n m g2 = some (nI (g_q g r))) (f4 : f11_play K2 n m (nI k) g2 = some (nI y, h2')) : f11_layState K2 n m a1 a2 (nI k) (sI h2 m 0 0) = some ((if y = k then 1 else 0), h2') := by
  unfold f11_layState
  rw [f2, x_bd, if_neg b_10, f3, x_bp, m_inQ (by omega) (by omega), if_pos hk, if_neg b_10, f4, x_bd]
  simp only [x_eq (show y < 2147483648 by omega) (show k < 2147483648 by omega)]
theorem both_stop (kx : KX K1 x) (hn : 5000 ≤ n) (v : XX x h1 m h2) : CC x m (f0_stop K1 n x a1 a2 h1) (f11_stop K2 n m a1 a2 h2) := by
  obtain ⟨g, vg⟩ := v.2.2.1
  have tr := v.1 0 (by omega)
  have c0 := vg.1.2.1 0 (by omega)
  have c1 := vg.1.2.1 1 (by omega)
  by_cases hi : isI a1 (g_c g 0) ∧ isI a2 (g_c g 1)
  · obtain ⟨i, li, rfl⟩ := isI_of (by omega) hi.1
    obtain ⟨r, lr, rfl⟩ := isI_of (by omega) hi.2
    obtain ⟨y, h1', g2, h2', st, f1, f2, f3, f4, f5, f6, f7, f8, f9, f10, f11⟩ := both_lay (K2 := K2) kx hn v vg li lr (Nat.le_refl _)
    have vr := (vg.2.1.2.2.2.2.2.2.1 r lr).1
    rw [show x + 1 + 31 + 4 * r = x + 32 + 4 * r by omega] at vr
    refine ⟨nI y, h1', h2', ?_, ?_, f9⟩
    · unfold f0_stop
      refine (c_two kx tr vg li lr).trans ?_
      rw [vr, f1, x_bd]
    · unfold f11_stop
      rw [x_lt, f2, x_bd, if_neg b_10, f3, x_bp, f4, x_bd]
  · have ch0 : ChM RL m h2 (sI h2 m 0 0) := ChM.F (by simp [RL]) ChM.rf
    obtain ⟨k1, e1, ch1⟩ := m_layNo (K2 := K2) (n := n) (vg.2.2.kp ch0 (by decide)) vg.1 hi
    refine ⟨-1, h1, k1, ?_, ?_, v.z (ch0.tr ch1)⟩
    · unfold f0_stop
      exact c_twoNo kx tr vg hi
    · unfold f11_stop
      rw [x_lt, e1, x_bd, if_pos rfl]
theorem both_state (kx : KX K1 x) (hn : 5000 ≤ n) (v : XX x h1 m h2) : CC x m (f0_state K1 n x a1 a2 a3 a4 h1) (f11_state K2 n m a1 a2 a3 a4 h2) := by
  obtain ⟨g, vg⟩ := v.2.2.1
  have tr := v.1 0 (by omega)
  have c0 := vg.1.2.1 0 (by omega)
  have c1 := vg.1.2.1 1 (by omega)
  by_cases hi : isI a1 (g_c g 0) ∧ isI a2 (g_c g 1)
  · obtain ⟨i, li, rfl⟩ := isI_of (by omega) hi.1
    obtain ⟨r, lr, rfl⟩ := isI_of (by omega) hi.2
    have rk := (vg.1.2.2.2.1 r lr).1
    have vr := (vg.2.1.2.2.2.2.2.2.1 r lr).1
    rw [show x + 1 + 31 + 4 * r = x + 32 + 4 * r by omega] at vr
    by_cases h3 : isI a3 (g_q g r + 1)
    · obtain ⟨k, lk, rfl⟩ := isI_of (by omega) h3
      obtain ⟨y, h1', g2, h2', st, f1, f2, f3, f4, f5, f6, f7, f8, f9, f10, f11⟩ := both_lay (K2 := K2) kx hn v vg li lr (show k ≤ g_q g r by omega)
      have es := m_stIn (by omega) rk f5 f2 f3 f4
      obtain ⟨w, w1, w2⟩ := both_look (K2 := K2) (n := n) (vg.1.2.2.1 i li) kx.1 hn a4 f6
      have cs : f0_state K1 n x (nI i) (nI r) (nI k) a4 h1 = if nI k ≤ nI y then some (w, h1') else some (-2, h1') := by
        unfold f0_state
        refine (c_two kx tr vg li lr).trans ?_
        rw [if_neg (nI_pos (by omega)), vr, if_pos (nI_le (by omega) (by omega)), f1, x_bd, w1, x_bp]
      have ms : f11_state K2 n m (nI i) (nI r) (nI k) a4 h2 = if y = k then some (w, h2') else some (-2, h2') := by
        unfold f11_state
        rw [x_lt, es, x_bd]
        by_cases hy : y = k
        · rw [if_pos hy, if_neg b_10, w2, x_bp, if_pos hy]
        · rw [if_neg hy, if_pos rfl, if_neg hy]
      rw [cs, ms]
      simp only [x_le (show k < 2147483648 by omega) (show y < 2147483648 by omega)]
      by_cases hy : y = k
      · exact ⟨w, h1', h2', by rw [if_pos (by omega)], by rw [if_pos hy], f9⟩
      · exact ⟨-2, h1', h2', by rw [if_neg (by omega)], by rw [if_neg hy], f9⟩
    · obtain ⟨g2, e1, v2⟩ := m_stOut (K2 := K2) kx hn v vg li lr h3
      refine ⟨-2, h1, g2, ?_, ?_, v2⟩
      · unfold f0_state
        refine (c_two kx tr vg li lr).trans ?_
        by_cases hneg : a3 < 0
        · rw [if_pos hneg]
        · obtain ⟨y, hy, rfl⟩ := nI_of hneg
          have : ¬ y ≤ g_q g r := fun hh => h3 (isI_nI (by omega) (by omega))
          rw [if_neg hneg, vr, if_neg (by rw [x_le hy (by omega)]; exact this)]
      · unfold f11_state
        rw [x_lt, e1, x_bd, if_pos rfl]
  · obtain ⟨g2, e1, v2⟩ := m_stNo (K2 := K2) (n := n) (a3 := a3) v vg hi
    refine ⟨-2, h1, g2, ?_, ?_, v2⟩
    · unfold f0_state
      exact c_twoNo kx tr vg hi
    · unfold f11_state
      rw [x_lt, e1, x_bd, if_pos rfl]
end States
