/-! stored, entry: both sides alike -/
section Seen
variable {K1 K2 : Ly} {n x m : Nat} {h1 h2 : Hp} {g : Gh} {a a1 a2 a3 a4 a5 a6 : Int32}
theorem c_hasI {o : Nat} {N : Nat → Nat} (v : vN o h1 N) (ok : nOk N) (ha : ¬ isI a (N 0)) : f2_hasNode o a h1 = 0 := by
  have b0 := ok.1
  by_cases hneg : a < 0
  · exact c_hasNeg hneg
  · obtain ⟨y, hy, rfl⟩ := nI_of hneg
    rw [c_hasN v ok hy, if_neg (fun hh => ha (isI_nI (by omega) hh))]
theorem m_isNo {N : Nat → Nat} (nn : h2.1 m 23 = nI (N 0)) (ok : nOk N) (ha : ¬ isI a (N 0)) : f11_isNode K2 n m a h2 = some 0 := by
  have b0 := ok.1
  by_cases hneg : a < 0
  · exact m_isNeg hneg
  · obtain ⟨y, hy, rfl⟩ := nI_of hneg
    rw [m_isN nn ok hy, if_neg (fun hh => ha (isI_nI (by omega) hh))]
theorem both_stored (kx : KX K1 x) (hn : 5000 ≤ n) (v : XX x h1 m h2) : CC x m (f0_stored K1 n x a1 a2 a3 a4 a5 a6 h1) (f11_stored K2 n m a1 a2 a3 a4 a5 a6 h2) := by
  obtain ⟨g, vg⟩ := v.2.2.1
  have tr := v.1 0 (by omega)
  have c0 := vg.1.2.1 0 (by omega)
  have c1 := vg.1.2.1 1 (by omega)
  by_cases hi : isI a1 (g_c g 0) ∧ isI a2 (g_c g 1)
  · obtain ⟨i, li, rfl⟩ := isI_of (by omega) hi.1
    obtain ⟨r, lr, rfl⟩ := isI_of (by omega) hi.2
    have rk := (vg.1.2.2.2.1 r lr).1
    have ok := vg.1.2.2.1 i li
    have b0 := ok.1
    have vr := (vg.2.1.2.2.2.2.2.2.1 r lr).1
    rw [show x + 1 + 31 + 4 * r = x + 32 + 4 * r by omega] at vr
    have vn := vg.2.1.2.2.2.2.2.1 i li
    rw [show x + 1 + 4 + 13 * i = x + 5 + 13 * i by omega] at vn
    by_cases h3 : isI a3 (g_q g r + 1)
    · obtain ⟨k, lk, rfl⟩ := isI_of (by omega) h3
      obtain ⟨y, h1', g2, h2', st, f1, f2, f3, f4, f5, f6, f7, f8, f9, f10, f11, f12, f13⟩ := both_lay (K2 := K2) kx hn v vg li lr (show k ≤ g_q g r by omega)
      have es := m_stIn (by omega) rk f5 f2 f3 f4
      have nn : h2'.1 m 23 = nI (g_N g i 0) := f6.1.2.1.1.1.2.2.1
      have nq : ¬ nI (g_q g r) < nI k := nI_nlt (by omega) (by omega)
      by_cases h4 : isI a4 (g_N g i 0)
      · obtain ⟨d, ld, rfl⟩ := isI_of (by omega) h4
        have e6 : inb (nI d) 6 = true := x_in (by omega) (by omega)
        have e7 : (nI d).toNatClampNeg = d := x_cl (by omega)
        obtain ⟨w, w1, w2⟩ := both_kept (show d < 6 by omega) a5 a6 f6
        have sr := (f6.1.1.2.2.2.2.2.2.2.1 d (by omega)).1
        have cs : f0_stored K1 n x (nI i) (nI r) (nI k) (nI d) a5 a6 h1 = if nI y < nI k then some (-1, h1') else some (w, h1') := by
          unfold f0_stored
          refine (c_two kx tr vg li lr).trans ?_
          rw [if_neg (nI_pos (by omega)), vr, if_neg nq, c_hasN vn ok (by omega), if_pos ld, if_neg b_10, f1, x_bd, e6, x_gd, e7, sr, x_ob (kx.1.2.2.1 d (by omega)), w1]
        have ms : f11_stored K2 n m (nI i) (nI r) (nI k) (nI d) a5 a6 h2 = if y = k then some (w, h2') else some (-1, h2') := by
          unfold f11_stored
          rw [x_lt, es, x_bd]
          by_cases hy : y = k
          · rw [if_pos hy, if_neg b_10, m_isN nn ok (by omega), x_bp, if_pos ld, if_neg b_10, e6, x_gd, e7, w2, if_pos hy]
          · rw [if_neg hy, if_pos rfl, if_neg hy]
        rw [cs, ms]
        simp only [x_lt' (show y < 2147483648 by omega) (show k < 2147483648 by omega)]
        by_cases hy : y = k
        · exact ⟨w, h1', h2', by rw [if_neg (by omega)], by rw [if_pos hy], f9⟩
        · exact ⟨-1, h1', h2', by rw [if_pos (by omega)], by rw [if_neg hy], f9⟩
      · refine ⟨-1, h1, h2', ?_, ?_, f13⟩
        · unfold f0_stored
          refine (c_two kx tr vg li lr).trans ?_
          rw [if_neg (nI_pos (by omega)), vr, if_neg nq, c_hasI vn ok h4, if_pos rfl]
        · unfold f11_stored
          rw [x_lt, es, x_bd]
          by_cases hy : y = k
          · rw [if_pos hy, if_neg b_10, m_isNo nn ok h4, x_bp, if_pos rfl]
          · rw [if_neg hy, if_pos rfl]
    · obtain ⟨g2, e1, v2⟩ := m_stOut (K2 := K2) kx hn v vg li lr h3
      refine ⟨-1, h1, g2, ?_, ?_, v2⟩
      · unfold f0_stored
        refine (c_two kx tr vg li lr).trans ?_
        by_cases hneg : a3 < 0
        · rw [if_pos hneg]
        · obtain ⟨y, hy, rfl⟩ := nI_of hneg
          have : ¬ y ≤ g_q g r := fun hh => h3 (isI_nI (by omega) (by omega))
          rw [if_neg hneg, vr, if_pos (nI_lt (by omega) hy)]
      · unfold f11_stored
        rw [x_lt, e1, x_bd, if_pos rfl]
  · obtain ⟨g2, e1, v2⟩ := m_stNo (K2 := K2) (n := n) (a3 := a3) v vg hi
    refine ⟨-1, h1, g2, ?_, ?_, v2⟩
    · unfold f0_stored
      exact c_twoNo kx tr vg hi
    · unfold f11_stored
      rw [x_lt, e1, x_bd, if_pos rfl]
theorem both_entryC (kx : KX K1 x) (hn : 5000 ≤ n) (v : XX x h1 m h2) : CC x m (f0_entry K1 n x a1 a2 a3 a4 a5 a6 h1) (f11_entry K2 n m a1 a2 a3 a4 a5 a6 h2) := by
  obtain ⟨g, vg⟩ := v.2.2.1
  have tr := v.1 0 (by omega)
  have c0 := vg.1.2.1 0 (by omega)
  have c1 := vg.1.2.1 1 (by omega)
  by_cases hi : isI a1 (g_c g 0) ∧ isI a2 (g_c g 1)
  · obtain ⟨i, li, rfl⟩ := isI_of (by omega) hi.1
    obtain ⟨r, lr, rfl⟩ := isI_of (by omega) hi.2
    have rk := (vg.1.2.2.2.1 r lr).1
    have ok := vg.1.2.2.1 i li
    have b0 := ok.1
    have vr := (vg.2.1.2.2.2.2.2.2.1 r lr).1
    rw [show x + 1 + 31 + 4 * r = x + 32 + 4 * r by omega] at vr
    have vn := vg.2.1.2.2.2.2.2.1 i li
    rw [show x + 1 + 4 + 13 * i = x + 5 + 13 * i by omega] at vn
    by_cases h3 : isI a3 (g_q g r + 1)
    · obtain ⟨k, lk, rfl⟩ := isI_of (by omega) h3
      obtain ⟨y, h1', g2, h2', st, f1, f2, f3, f4, f5, f6, f7, f8, f9, f10, f11, f12, f13⟩ := both_lay (K2 := K2) kx hn v vg li lr (show k ≤ g_q g r by omega)
      have es := m_stIn (by omega) rk f5 f2 f3 f4
      have nn : h2'.1 m 23 = nI (g_N g i 0) := f6.1.2.1.1.1.2.2.1
      have nq : ¬ nI (g_q g r) < nI k := nI_nlt (by omega) (by omega)
      by_cases h4 : isI a4 (g_N g i 0)
      · obtain ⟨d, ld, rfl⟩ := isI_of (by omega) h4
        have e6 : inb (nI d) 6 = true := x_in (by omega) (by omega)
        have e7 : (nI d).toNatClampNeg = d := x_cl (by omega)
        obtain ⟨w, w1, w2⟩ := both_entry (K2 := K2) (n := n) kx.1 hn (show d < 6 by omega) a5 a6 f6
        have cs : f0_entry K1 n x (nI i) (nI r) (nI k) (nI d) a5 a6 h1 = if nI k ≤ nI y then some (w, h1') else some (-1, h1') := by
          unfold f0_entry
          refine (c_two kx tr vg li lr).trans ?_
          rw [if_neg (nI_pos (by omega)), vr, if_neg nq, c_hasN vn ok (by omega), if_pos ld, if_neg b_10, f1, x_bd, w1]
          rfl
        have ms : f11_entry K2 n m (nI i) (nI r) (nI k) (nI d) a5 a6 h2 = if y = k then some (w, h2') else some (-1, h2') := by
          unfold f11_entry
          rw [x_lt, es, x_bd]
          by_cases hy : y = k
          · rw [if_pos hy, if_neg b_10, m_isN nn ok (by omega), x_bp, if_pos ld, if_neg b_10, e6, x_gd, e7, w2, if_pos hy]
          · rw [if_neg hy, if_pos rfl, if_neg hy]
        rw [cs, ms]
        simp only [x_le (show k < 2147483648 by omega) (show y < 2147483648 by omega)]
        by_cases hy : y = k
        · exact ⟨w, h1', h2', by rw [if_pos (by omega)], by rw [if_pos hy], f9⟩
        · exact ⟨-1, h1', h2', by rw [if_neg (by omega)], by rw [if_neg hy], f9⟩
      · refine ⟨-1, h1, h2', ?_, ?_, f13⟩
        · unfold f0_entry
          refine (c_two kx tr vg li lr).trans ?_
          rw [if_neg (nI_pos (by omega)), vr, if_neg nq, c_hasI vn ok h4, if_pos rfl]
        · unfold f11_entry
          rw [x_lt, es, x_bd]
          by_cases hy : y = k
          · rw [if_pos hy, if_neg b_10, m_isNo nn ok h4, x_bp, if_pos rfl]
          · rw [if_neg hy, if_pos rfl]
    · obtain ⟨g2, e1, v2⟩ := m_stOut (K2 := K2) kx hn v vg li lr h3
      refine ⟨-1, h1, g2, ?_, ?_, v2⟩
      · unfold f0_entry
        refine (c_two kx tr vg li lr).trans ?_
        by_cases hneg : a3 < 0
        · rw [if_pos hneg]
        · obtain ⟨y, hy, rfl⟩ := nI_of hneg
          have : ¬ y ≤ g_q g r := fun hh => h3 (isI_nI (by omega) (by omega))
          rw [if_neg hneg, vr, if_pos (nI_lt (by omega) hy)]
      · unfold f11_entry
        rw [x_lt, e1, x_bd, if_pos rfl]
  · obtain ⟨g2, e1, v2⟩ := m_stNo (K2 := K2) (n := n) (a3 := a3) v vg hi
    refine ⟨-1, h1, g2, ?_, ?_, v2⟩
    · unfold f0_entry
      exact c_twoNo kx tr vg hi
    · unfold f11_entry
      rw [x_lt, e1, x_bd, if_pos rfl]
end Seen
