section AloneC
variable {K1 K2 : Ly} {n x m : Nat} {h1 h2 : Hp} {a a1 a2 a3 a4 a5 : Int32}
theorem m_inN {q : Nat} (hq : q < 2147483647) (h : ¬ isI a (q + 1)) : f11_in a 0 (nI q) = 0 := by
  by_cases hneg : a < 0
  · exact m_inG hneg
  · obtain ⟨y, hy, rfl⟩ := nI_of hneg
    rw [m_inQ hy (by omega), if_neg (fun hh => h (isI_nI (by omega) (by omega)))]
theorem isI_2 (h : isI a 2) : (a = (0 : Int32) ∨ a = (1 : Int32)) ∧ f11_in a 0 1 = 1 := by
  obtain ⟨k, lk, rfl⟩ := isI_of (by omega) h
  have := m_inQ (k := k) (q := 1) (by omega) (by omega)
  rw [if_pos (by omega)] at this
  refine ⟨?_, this⟩
  rcases (show k = 0 ∨ k = 1 by omega) with rfl | rfl
  · exact Or.inl rfl
  · exact Or.inr rfl
theorem isI_2n (h : ¬ isI a 2) : (¬ a = (0 : Int32) ∧ ¬ a = (1 : Int32)) ∧ f11_in a 0 1 = 0 :=
  ⟨⟨fun hh => h (hh ▸ isI_nI (i := 0) (by omega) (by omega)), fun hh => h (hh ▸ isI_nI (i := 1) (by omega) (by omega))⟩, m_inN (q := 1) (by omega) h⟩
theorem isI_3 (h : isI a 3) : ¬ a < 0 ∧ a ≤ (2 : Int32) ∧ f11_in a 0 2 = 1 := by
  obtain ⟨k, lk, rfl⟩ := isI_of (by omega) h
  have := m_inQ (k := k) (q := 2) (by omega) (by omega)
  rw [if_pos (by omega)] at this
  exact ⟨nI_pos (by omega), by rw [show (2 : Int32) = nI 2 from rfl]; exact nI_le (by omega) (by omega), this⟩
theorem both_alone (kx : KX K1 x) (hn : 5000 ≤ n) (v : XX x h1 m h2) : CC x m (f0_alone K1 n x a1 a2 a3 a4 a5 h1) (f11_alone K2 n m a1 a2 a3 a4 a5 h2) := by
  obtain ⟨g, vg⟩ := v.2.2.1
  have tr := v.1 0 (by omega)
  have c0 := vg.1.2.1 0 (by omega)
  have ch0 : ChM RL m h2 (sI h2 m 0 0) := ChM.F (by simp [RL]) ChM.rf
  have vm0 := vg.2.2.kp ch0 (by decide)
  by_cases hi : isI a1 (g_c g 0)
  · obtain ⟨i, li, rfl⟩ := isI_of (by omega) hi
    have ok := vg.1.2.2.1 i li
    have b0 := ok.1
    obtain ⟨g2, e1, vmn, ch1⟩ := m_hasNet (K2 := K2) (n := n) vm0 vg.1 li
    have nn : g2.1 m 23 = nI (g_N g i 0) := vmn.2.2.1
    have xz : XX x h1 m g2 := v.z (ch0.tr (RN.up ch1))
    have cf := fun (b : Option (Int32 × Hp)) (F : Nat → Option (Int32 × Hp)) => c_one (n := n) (b := b) (F := F) kx tr vg li
    obtain ⟨-, ko, vn⟩ := cf none (fun _ => none)
    by_cases h2n : isI a2 (g_N g i 0)
    · obtain ⟨d, ld, rfl⟩ := isI_of (by omega) h2n
      rcases both_name (K1 := K1) (K2 := K2) (a := a3) (h1 := h1) (h2 := g2) hn with ⟨w, rfl, w1, w2, w3, w4⟩ | ⟨w3, w4⟩
      · have cs : f0_alone K1 n x (nI i) (nI d) (nI w) a4 a5 h1 = if a4 = 0 then f0_alone_J42 K1 n x (nI d) (nI w) a4 a5 (x + 5 + 13 * i) h1 else if a4 = (1 : Int32) then f0_alone_J42 K1 n x (nI d) (nI w) a4 a5 (x + 5 + 13 * i) h1 else some (-2, h1) := by
          unfold f0_alone
          refine (cf _ _).1.trans ?_
          rw [c_hasN vn ok (by omega), if_pos ld, if_neg b_10, w3, x_bp, if_neg b_10]
        have ms : f11_alone K2 n m (nI i) (nI d) (nI w) a4 a5 h2 = if f11_in a4 0 1 = 0 then some (-2, g2) else if f11_in a5 0 2 = 0 then some (-2, g2) else (bp (f11_begin K2 n m (-1 : Int32) g2) fun h15 => bd (f11_asks K2 n m (nI d) (nI w) a4 (0 : Int32) h15) fun y18 h17 => bd (f11_waits K2 n m (99 : Int32) h17) fun y21 h20 => if a5 = (2 : Int32) then some ((h20.1 m 65), h20) else bp (f11_ofAsk K2 n m (0 : Int32) a5 h20) fun y24 => some (y24, h20)) := by
          unfold f11_alone
          rw [x_lt, e1, x_bd, if_neg b_10, m_isN nn ok (by omega), x_bp, if_pos ld, if_neg b_10, w4, x_bp, if_neg b_10]
        rw [cs, ms]
        by_cases h4 : isI a4 2
        · obtain ⟨q1, q2⟩ := isI_2 h4
          have cJ : (if a4 = 0 then f0_alone_J42 K1 n x (nI d) (nI w) a4 a5 (x + 5 + 13 * i) h1 else if a4 = (1 : Int32) then f0_alone_J42 K1 n x (nI d) (nI w) a4 a5 (x + 5 + 13 * i) h1 else some (-2, h1)) = f0_alone_J42 K1 n x (nI d) (nI w) a4 a5 (x + 5 + 13 * i) h1 := by
            rcases q1 with q1 | q1
            · rw [if_pos q1]
            · rw [if_pos q1]; exact ite_self _
          rw [cJ, q2, if_neg b_10]
          unfold f0_alone_J42
          by_cases h5 : isI a5 3
          · obtain ⟨r1, r2, r3⟩ := isI_3 h5
            obtain ⟨h1', k2, l2, h2', st, s1, s2, s3, s4, s5, s6, s7, s8⟩ := both_aloneR (K2 := K2) (ws := a4) ok kx.1 hn v.2.1 (show x + 5 + 13 * i + 13 ≤ x + 210 by omega) ko vn vmn ld w2
            have t65 : h2'.1 m 65 = h1'.1 (x + 210 + 22) 0 := (s5.1.2.1.2.2.2.2.2.2.2.2.2 0 (by omega)).trans (s5.1.1.2.2.2.2.2.2.2.2.2 0 (by omega)).symm
            have fo : f11_ofAsk K2 n m (0 : Int32) a5 h2' = some (f9_look (x + 210 + 767 + 0) a5 h1') := both_fate (k := 0) (by omega) s6 a5 s5
            have fr := (s5.1.1.2.2.2.2.2.2.2.2.1 0 (by omega)).1
            have xe : XX x h1' m h2' := v.kp (R := RQ) (fun a k ha => ⟨(s7 a k (by omega)).1, (s7 a k (by omega)).2.2⟩) s5.1.1.x (((ch0.up (by decide)).tr ((RN.up ch1).up (by decide))).tr (s8.up (by decide))) (by decide)
            rw [if_neg r1, if_pos r2, r3, if_neg b_10, s1, x_bp, s2, x_bp, s3, x_bd, s4, x_bd, t65, fo, x_bp, show (0 : Int32).toNatClampNeg = 0 from rfl, fr, x_ob (kx.1.2.2.2 0 (by omega))]
            by_cases k2 : a5 = 2
            · exact ⟨_, h1', h2', by rw [if_pos k2], by rw [if_pos k2], xe⟩
            · exact ⟨_, h1', h2', by rw [if_neg k2], by rw [if_neg k2], xe⟩
          · have r3 : f11_in a5 0 2 = 0 := m_inN (q := 2) (by omega) h5
            refine ⟨-2, h1, g2, ?_, by rw [r3, if_pos rfl], xz⟩
            by_cases hneg : a5 < 0
            · rw [if_pos hneg]
            · obtain ⟨y, hy, rfl⟩ := nI_of hneg
              rw [if_neg hneg, if_neg (show ¬ nI y ≤ (2 : Int32) by rw [show (2 : Int32) = nI 2 from rfl, x_le hy (by omega)]; exact fun hh => h5 (isI_nI (by omega) (by omega)))]
        · obtain ⟨⟨q1, q2⟩, q3⟩ := isI_2n h4
          exact ⟨-2, h1, g2, by rw [if_neg q1, if_neg q2], by rw [q3, if_pos rfl], xz⟩
      · refine ⟨-2, h1, g2, ?_, ?_, xz⟩
        · unfold f0_alone
          refine (cf _ _).1.trans ?_
          rw [c_hasN vn ok (by omega), if_pos ld, if_neg b_10, w3, x_bp, if_pos rfl]
        · unfold f11_alone
          rw [x_lt, e1, x_bd, if_neg b_10, m_isN nn ok (by omega), x_bp, if_pos ld, if_neg b_10, w4, x_bp, if_pos rfl]
    · refine ⟨-2, h1, g2, ?_, ?_, xz⟩
      · unfold f0_alone
        refine (cf _ _).1.trans ?_
        rw [c_hasI vn ok h2n, if_pos rfl]
      · unfold f11_alone
        rw [x_lt, e1, x_bd, if_neg b_10, m_isNo nn ok h2n, x_bp, if_pos rfl]
  · obtain ⟨k1, e1, ch1⟩ := m_netNo (K2 := K2) (n := n) vm0 vg.1 hi
    refine ⟨-2, h1, k1, ?_, ?_, v.z (ch0.tr (RN.up ch1))⟩
    · unfold f0_alone
      exact c_oneNo vg hi
    · unfold f11_alone
      rw [x_lt, e1, x_bd, if_pos rfl]
end AloneC
