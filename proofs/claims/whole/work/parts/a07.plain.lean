/-! deed, count, fault, end: both sides alike -/
/-- both sides answer alike, and the class writes nothing -/
def CP (x m : Nat) (h1 : Hp) (F1 : Option Int32) (F2 : Option (Int32 × Hp)) : Prop := ∃ v h2', F1 = some v ∧ F2 = some (v, h2') ∧ XX x h1 m h2'
section Plain
variable {K1 K2 : Ly} {n x m : Nat} {h1 h2 : Hp} {a a1 a2 a3 : Int32}
theorem both_fault (v : XX x h1 m h2) : CP x m h1 (some (f0_fault x a1 h1)) (f11_fault K2 n m a1 h2) := by
  obtain ⟨g, vg⟩ := v.2.2.1
  have ch0 : ChM RL m h2 (sI h2 m 0 0) := ChM.F (by simp [RL]) ChM.rf
  have vm0 := vg.2.2.kp ch0 (by decide)
  have e1 : (sI h2 m 0 0).1 (m + 3) (0 : Int32).toNatClampNeg = g_f g := vm0.2.2.1
  have e2 : (sI h2 m 0 0).1 (m + 4) (0 : Int32).toNatClampNeg = g_p g := vm0.2.2.2.1
  refine ⟨_, sI h2 m 0 0, rfl, ?_, v.z ch0⟩
  unfold f11_fault f0_fault
  rw [x_lt, e1, e2, vg.2.1.2.2.1, vg.2.1.2.2.2.1]
  by_cases k0 : a1 = 0
  · rw [if_pos k0, if_pos k0]
  · rw [if_neg k0, if_neg k0]
    by_cases k1 : a1 = 1
    · rw [if_pos k1, if_pos k1]
    · rw [if_neg k1, if_neg k1]
theorem m_in2 (h : ¬ isI a 3) : f11_in a 0 2 = 0 := m_inN (q := 2) (by omega) h
theorem both_count (v : XX x h1 m h2) : CP x m h1 (f0_count K1 n x a1 h1) (f11_count K2 n m a1 h2) := by
  obtain ⟨g, vg⟩ := v.2.2.1
  have ch0 : ChM RL m h2 (sI h2 m 0 0) := ChM.F (by simp [RL]) ChM.rf
  have vm0 := vg.2.2.kp ch0 (by decide)
  unfold f0_count f11_count f0_count_J9
  rw [x_lt]
  by_cases hi : isI a1 3
  · obtain ⟨k, lk, rfl⟩ := isI_of (by omega) hi
    have e1 : nI k < (3 : Int32) := by rw [show (3 : Int32) = nI 3 from rfl]; exact nI_lt lk (by omega)
    have e2 := vm0.2.2.2.2.1 k lk
    rw [show 3 * 0 + k = k by omega] at e2
    have e3 := vg.2.1.2.2.2.2.1 k lk
    refine ⟨nI (g_c g k), _, ?_, ?_, v.z ch0⟩
    · rw [if_neg (nI_pos (by omega)), if_pos e1, x_in (by omega) (by omega), x_gd, x_cl (by omega), e3]
    · rw [(isI_3 hi).2.2, if_neg b_10, x_in (by omega) (by omega), x_gd, x_cl (by omega), e2]
  · refine ⟨-2, _, ?_, by rw [m_in2 hi, if_pos rfl], v.z ch0⟩
    by_cases hneg : a1 < 0
    · rw [if_pos hneg]
    · obtain ⟨y, hy, rfl⟩ := nI_of hneg
      have e1 : ¬ nI y < (3 : Int32) := by rw [show (3 : Int32) = nI 3 from rfl, x_lt' hy (by omega)]; exact fun hh => hi (isI_nI (by omega) hh)
      rw [if_neg hneg, if_neg e1]
theorem both_deed_c (kx : KX K1 x) (v : XX x h1 m h2) : CP x m h1 (f0_deed K1 n x a1 a2 a3 h1) (f11_deed K2 n m a1 a2 a3 h2) := by
  obtain ⟨g, vg⟩ := v.2.2.1
  have tr := v.1 0 (by omega)
  have c1 := vg.1.2.1 1 (by omega)
  have ch0 : ChM RL m h2 (sI h2 m 0 0) := ChM.F (by simp [RL]) ChM.rf
  have vm0 := vg.2.2.kp ch0 (by decide)
  by_cases hi : isI a1 (g_c g 1)
  · obtain ⟨r, lr, rfl⟩ := isI_of (by omega) hi
    have rk := (vg.1.2.2.2.1 r lr).1
    have vr := vg.2.1.2.2.2.2.2.2.1 r lr
    rw [show x + 1 + 31 + 4 * r = x + 32 + 4 * r by omega] at vr
    obtain ⟨g2, e1, w1, ch1⟩ := m_hasRun (K2 := K2) (n := n) vm0 vg.1 lr
    have xz : XX x h1 m g2 := v.z (ch0.tr (RR.up ch1))
    have e6 : K1 (x + 32 + 4 * r) = some (.inl 3) := by
      have : K1 (x + 1 + 31 + 4 * r) = some (.inl 3) := (kx.2 0 (by omega) r (by omega)).2.1
      rw [show x + 32 + 4 * r = x + 1 + 31 + 4 * r by omega]; exact this
    have io : isO K1 (x + 32 + 4 * r) 3 = true := by simp [isO, e6]
    have dd := m_deeds (K2 := K2) (n := n) w1
    have cs : ∀ {β : Type} (b : Option β) (F : Nat → Option β), (bp (f0_runAt K1 n x (nI r) h1) fun y2 => nl y2 b fun o5 => gd (isO K1 o5 3) (F o5)) = F (x + 32 + 4 * r) := fun b F => by
      rw [c_runAt kx tr vg lr, x_bp]
      show gd (isO K1 (x + 32 + 4 * r) 3) (F (x + 32 + 4 * r)) = _
      rw [io, x_gd]
    by_cases km : a2 = -1
    · refine ⟨if a3 = 0 then nI (g_q g r) else -2, g2, ?_, ?_, xz⟩
      · unfold f0_deed
        refine (cs _ _).trans ?_
        rw [if_pos km, vr.1]
      · unfold f11_deed
        rw [x_lt, e1, x_bd, if_neg b_10, if_pos km, dd, x_bp]
        by_cases k0 : a3 = 0
        · rw [if_pos k0, if_pos k0]
        · rw [if_neg k0, if_neg k0]
    · by_cases h2' : isI a2 (g_q g r)
      · obtain ⟨k, lk, rfl⟩ := isI_of (by omega) h2'
        obtain ⟨r1, r2, r3⟩ := vr.2 k lk
        have e7 : inb (nI k) 40 = true := x_in (by omega) (by omega)
        have e8 : (nI k).toNatClampNeg = k := x_cl (by omega)
        have cf : f0_deed K1 n x (nI r) (nI k) a3 h1 = if a3 = (0 : Int32) then some (g_R g r (1 + 3 * k)) else if a3 = (1 : Int32) then some (g_R g r (2 + 3 * k)) else if a3 = (2 : Int32) then some (g_R g r (3 + 3 * k)) else some (-2) := by
          unfold f0_deed
          refine (cs _ _).trans ?_
          rw [if_neg km, if_neg (nI_pos (by omega)), vr.1, if_pos (nI_lt lk (by omega)), e7, x_gd, x_gd, x_gd, e8, r1, r2, r3]
        have mf : f11_deed K2 n m (nI r) (nI k) a3 h2 = if f11_in a3 0 2 = 0 then some (-2, g2) else bp (f11_deedOf K2 n m (nI k) a3 g2) fun y15 => some (y15, g2) := by
          unfold f11_deed
          rw [x_lt, e1, x_bd, if_neg b_10, if_neg km, dd, x_bp, m_inL (by omega) (by omega), if_pos lk, if_neg b_10]
        rw [cf, mf]
        by_cases h3 : isI a3 3
        · obtain ⟨w, lw, rfl⟩ := isI_of (by omega) h3
          rw [(isI_3 h3).2.2, if_neg b_10, m_deedOf w1 (by omega), x_bp]
          refine ⟨_, g2, ?_, rfl, xz⟩
          rcases (show w = 0 ∨ w = 1 ∨ w = 2 by omega) with rfl | rfl | rfl
          · rw [if_pos (show nI 0 = (0 : Int32) from rfl), Nat.add_zero]
          · rw [if_neg (show ¬ nI 1 = (0 : Int32) by decide), if_pos (show nI 1 = (1 : Int32) from rfl), show 2 + 3 * k = 1 + 3 * k + 1 by omega]
          · rw [if_neg (show ¬ nI 2 = (0 : Int32) by decide), if_neg (show ¬ nI 2 = (1 : Int32) by decide), if_pos (show nI 2 = (2 : Int32) from rfl), show 3 + 3 * k = 1 + 3 * k + 2 by omega]
        · have k0 : ¬ a3 = (0 : Int32) := fun hh => h3 (hh ▸ isI_nI (i := 0) (by omega) (by omega))
          have k1 : ¬ a3 = (1 : Int32) := fun hh => h3 (hh ▸ isI_nI (i := 1) (by omega) (by omega))
          have k2 : ¬ a3 = (2 : Int32) := fun hh => h3 (hh ▸ isI_nI (i := 2) (by omega) (by omega))
          exact ⟨-2, g2, by rw [if_neg k0, if_neg k1, if_neg k2], by rw [m_in2 h3, if_pos rfl], xz⟩
      · refine ⟨-2, g2, ?_, ?_, xz⟩
        · unfold f0_deed
          refine (cs _ _).trans ?_
          rw [if_neg km]
          by_cases hneg : a2 < 0
          · rw [if_pos hneg]
          · obtain ⟨y, hy, rfl⟩ := nI_of hneg
            rw [if_neg hneg, vr.1, if_neg (show ¬ nI y < nI (g_q g r) by rw [x_lt' hy (by omega)]; exact fun hh => h2' (isI_nI (by omega) hh))]
        · unfold f11_deed
          rw [x_lt, e1, x_bd, if_neg b_10, if_neg km, dd, x_bp]
          by_cases hneg : a2 < 0
          · rw [m_inG hneg, if_pos rfl]
          · obtain ⟨y, hy, rfl⟩ := nI_of hneg
            rw [m_inL hy (by omega), if_neg (fun hh => h2' (isI_nI (by omega) hh)), if_pos rfl]
  · obtain ⟨k1, e1, ch1⟩ := m_runNo (K2 := K2) (n := n) vm0 vg.1 hi
    refine ⟨-2, k1, ?_, ?_, v.z (ch0.tr (RR.up ch1))⟩
    · unfold f0_deed
      rw [c_runNo vg hi, x_bp]; rfl
    · unfold f11_deed
      rw [x_lt, e1, x_bd, if_pos rfl]
end Plain
