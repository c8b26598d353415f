/-! fact, end: both sides alike -/
def vML (m : Nat) (h : Hp) (q : Nat) (L : Nat → Int32) (j : Nat) : Prop := j < 2 ∧ h.1 m 81 = nI j ∧ h.1 (m + 8) (17 * j) = nI q ∧ ∀ i, 1 ≤ i → i < 17 → h.1 (m + 8) (17 * j + i) = L i
section Facts
variable {K1 K2 : Ly} {n x m : Nat} {h1 h2 : Hp} {g : Gh} {a a1 a2 a3 : Int32}
theorem m_facts {q j : Nat} {L : Nat → Int32} (v : vML m h2 q L j) : f11_facts K2 n m h2 = some (nI q) := by
  obtain ⟨v1, v2, v3, v4⟩ := v
  have e0 : (17 : Int32) * nI j = nI (17 * j) := by rw [show (17 : Int32) = nI 17 from rfl, pk_mul]
  unfold f11_facts
  rw [v2, e0, x_in (by omega) (by omega), x_gd, x_cl (by omega), v3]
theorem m_factOf {q j k w : Nat} {L : Nat → Int32} (v : vML m h2 q L j) (hk : 1 + 2 * k + w < 17) : f11_factOf K2 n m (nI k) (nI w) h2 = some (L (1 + 2 * k + w)) := by
  obtain ⟨v1, v2, v3, v4⟩ := v
  have e0 : ((17 : Int32) * nI j + (1 : Int32)) + (2 : Int32) * nI k + nI w = nI (17 * j + (1 + 2 * k + w)) := by
    rw [show (17 : Int32) = nI 17 from rfl, l_1, show (2 : Int32) = nI 2 from rfl, pk_mul, pk_mul, nI_add, nI_add, nI_add, show 17 * j + 1 + 2 * k + w = 17 * j + (1 + 2 * k + w) by omega]
  unfold f11_factOf
  rw [v2, e0, x_in (by omega) (by omega), x_gd, x_cl (by omega), v4 _ (by omega) hk]
def RG : List Nat := [181]
theorem RG.up {m : Nat} {h h' : Hp} (q : ChM RG m h h') : ChM RL m h h' := ChM.up q (by decide)
theorem m_hasLog {i : Nat} (v : mT m h2 0 g) (gk : gOk g) (hi : i < g_c g 2) : ∃ g2, f11_hasLog K2 n m (nI i) h2 = some (1, g2) ∧ vML m g2 (g_k g i) (g_L g i) i ∧ ChM RG m h2 g2 := by
  have c0 := gk.2.1 2 (by omega)
  have ch1 : ChM RG m h2 (sI h2 m 81 (nI i)) := ChM.F (by simp [RG]) ChM.rf
  have v1 := v.kp ch1 (by decide)
  have e1 : f11_is K2 n m (2 : Int32) (nI i) (sI h2 m 81 (nI i)) = some 1 := by
    have := m_is (K2 := K2) (n := n) (s := 2) (by omega) (a := nI i) v1 gk
    rw [if_neg (nI_pos (by omega)), x_cl (by omega), if_pos hi] at this
    exact this
  obtain ⟨w1, w2⟩ := v1.2.2.2.2.2.2.2 i hi
  rw [show 17 * (2 * 0 + i) = 17 * i by omega] at w1
  refine ⟨_, ?_, ⟨by omega, by rw [rI_e], w1, fun p h1 h2 => ?_⟩, ch1⟩
  · unfold f11_hasLog
    rw [x_lt, e1, x_bp]; rfl
  · have := w2 p h1 h2
    rw [show 17 * (2 * 0 + i) = 17 * i by omega] at this
    exact this
theorem m_logNo (v : mT m h2 0 g) (gk : gOk g) (hi : ¬ isI a (g_c g 2)) : ∃ g2, f11_hasLog K2 n m a h2 = some (0, g2) ∧ ChM RG m h2 g2 := by
  have ch1 : ChM RG m h2 (sI h2 m 81 a) := ChM.F (by simp [RG]) ChM.rf
  have v1 := v.kp ch1 (by decide)
  have e1 : f11_is K2 n m (2 : Int32) a (sI h2 m 81 a) = some 0 := by
    have := m_is (K2 := K2) (n := n) (s := 2) (by omega) (a := a) v1 gk
    by_cases ha : a < 0
    · rw [if_pos ha] at this; exact this
    · rw [if_neg ha, if_neg (fun hh => hi ⟨ha, hh⟩)] at this; exact this
  refine ⟨_, ?_, ch1⟩
  unfold f11_hasLog
  rw [x_lt, e1, x_bp]; rfl
theorem c_logAt {i : Nat} (kx : KX K1 x) (tr : cTr (tA x 0) h1) (v : XG x h1 m h2 g) (hi : i < g_c g 2) : f0_logAt K1 n x (nI i) h1 = some (some (x + 41 + 3 * i)) := by
  have c0 := v.1.2.1 2 (by omega)
  have e1 : h1.1 (x + 1 + 2) (2 : Int32).toNatClampNeg = nI (g_c g 2) := v.2.1.2.2.2.2.1 2 (by omega)
  have e2 : nI i < nI (g_c g 2) := nI_lt hi (by omega)
  have e3 : inb (nI i) 2 = true := x_in (by omega) (by omega)
  have e4 : h1.2.2 (x + 1 + 39) i = some (x + 1 + 40 + 3 * i) := (tr i (by omega)).2.2
  have e5 : K1 (x + 1 + 40 + 3 * i) = some (.inl 4) := (kx.2 0 (by omega) i (by omega)).2.2
  unfold f0_logAt
  rw [if_neg (nI_pos (by omega)), e1, if_pos e2, e3, x_gd, x_cl (by omega), e4, x_ob e5, show x + 1 + 40 + 3 * i = x + 41 + 3 * i by omega]
theorem c_logNo (v : XG x h1 m h2 g) (hi : ¬ isI a (g_c g 2)) : f0_logAt K1 n x a h1 = some none := by
  have c0 := v.1.2.1 2 (by omega)
  have e1 : h1.1 (x + 1 + 2) (2 : Int32).toNatClampNeg = nI (g_c g 2) := v.2.1.2.2.2.2.1 2 (by omega)
  unfold f0_logAt f0_logAt_J17
  by_cases ha : a < 0
  · rw [if_pos ha]
  · obtain ⟨y, hy, rfl⟩ := nI_of ha
    have e2 : ¬ nI y < nI (g_c g 2) := nI_nlt (Nat.le_of_not_lt fun hh => hi (isI_nI (by omega) hh)) hy
    rw [if_neg ha, e1, if_neg e2]
theorem both_fact (kx : KX K1 x) (v : XX x h1 m h2) : CP x m h1 (f0_fact K1 n x a1 a2 a3 h1) (f11_fact K2 n m a1 a2 a3 h2) := by
  obtain ⟨g, vg⟩ := v.2.2.1
  have tr := v.1 0 (by omega)
  have c1 := vg.1.2.1 2 (by omega)
  have ch0 : ChM RL m h2 (sI h2 m 0 0) := ChM.F (by simp [RL]) ChM.rf
  have vm0 := vg.2.2.kp ch0 (by decide)
  by_cases hi : isI a1 (g_c g 2)
  · obtain ⟨r, lr, rfl⟩ := isI_of (by omega) hi
    have rk := (vg.1.2.2.2.2 r lr).1
    have vr := vg.2.1.2.2.2.2.2.2.2 r lr
    rw [show x + 1 + 40 + 3 * r = x + 41 + 3 * r by omega] at vr
    obtain ⟨g2, e1, w1, ch1⟩ := m_hasLog (K2 := K2) (n := n) vm0 vg.1 lr
    have xz : XX x h1 m g2 := v.z (ch0.tr (RG.up ch1))
    have e6 : K1 (x + 41 + 3 * r) = some (.inl 4) := by
      have : K1 (x + 1 + 40 + 3 * r) = some (.inl 4) := (kx.2 0 (by omega) r (by omega)).2.2
      rw [show x + 41 + 3 * r = x + 1 + 40 + 3 * r by omega]; exact this
    have io : isO K1 (x + 41 + 3 * r) 4 = true := by simp [isO, e6]
    have dd := m_facts (K2 := K2) (n := n) w1
    have cs : ∀ {β : Type} (b : Option β) (F : Nat → Option β), (bp (f0_logAt K1 n x (nI r) h1) fun y2 => nl y2 b fun o5 => gd (isO K1 o5 4) (F o5)) = F (x + 41 + 3 * r) := fun b F => by
      rw [c_logAt kx tr vg lr, x_bp]
      show gd (isO K1 (x + 41 + 3 * r) 4) (F (x + 41 + 3 * r)) = _
      rw [io, x_gd]
    by_cases km : a2 = -1
    · refine ⟨if a3 = 0 then nI (g_k g r) else -2, g2, ?_, ?_, xz⟩
      · unfold f0_fact
        refine (cs _ _).trans ?_
        rw [if_pos km, vr.1]
      · unfold f11_fact
        rw [x_lt, e1, x_bd, if_neg b_10, if_pos km, dd, x_bp]
        by_cases k0 : a3 = 0
        · rw [if_pos k0, if_pos k0]
        · rw [if_neg k0, if_neg k0]
    · by_cases h2' : isI a2 (g_k g r)
      · obtain ⟨k, lk, rfl⟩ := isI_of (by omega) h2'
        obtain ⟨r1, r2⟩ := vr.2 k lk
        have e7 : inb (nI k) 8 = true := x_in (by omega) (by omega)
        have e8 : (nI k).toNatClampNeg = k := x_cl (by omega)
        have cf : f0_fact K1 n x (nI r) (nI k) a3 h1 = if a3 = (0 : Int32) then some (g_L g r (1 + 2 * k)) else if a3 = (1 : Int32) then some (g_L g r (2 + 2 * k)) else some (-2) := by
          unfold f0_fact
          refine (cs _ _).trans ?_
          rw [if_neg km, if_neg (nI_pos (by omega)), vr.1, if_pos (nI_lt lk (by omega)), e7, x_gd, x_gd, e8, r1, r2]
        have mf : f11_fact K2 n m (nI r) (nI k) a3 h2 = if f11_in a3 0 1 = 0 then some (-2, g2) else bp (f11_factOf K2 n m (nI k) a3 g2) fun y15 => some (y15, g2) := by
          unfold f11_fact
          rw [x_lt, e1, x_bd, if_neg b_10, if_neg km, dd, x_bp, m_inL (by omega) (by omega), if_pos lk, if_neg b_10]
        rw [cf, mf]
        by_cases h3 : isI a3 2
        · obtain ⟨w, lw, rfl⟩ := isI_of (by omega) h3
          rw [(isI_2 h3).2, if_neg b_10, m_factOf w1 (by omega), x_bp]
          refine ⟨_, g2, ?_, rfl, xz⟩
          rcases (show w = 0 ∨ w = 1 by omega) with rfl | rfl
          · rw [if_pos (show nI 0 = (0 : Int32) from rfl), Nat.add_zero]
          · rw [if_neg (show ¬ nI 1 = (0 : Int32) by decide), if_pos (show nI 1 = (1 : Int32) from rfl), show 2 + 2 * k = 1 + 2 * k + 1 by omega]
        · obtain ⟨⟨k0, k1⟩, k2⟩ := isI_2n h3
          exact ⟨-2, g2, by rw [if_neg k0, if_neg k1], by rw [k2, if_pos rfl], xz⟩
      · refine ⟨-2, g2, ?_, ?_, xz⟩
        · unfold f0_fact
          refine (cs _ _).trans ?_
          rw [if_neg km]
          by_cases hneg : a2 < 0
          · rw [if_pos hneg]
          · obtain ⟨y, hy, rfl⟩ := nI_of hneg
            rw [if_neg hneg, vr.1, if_neg (show ¬ nI y < nI (g_k g r) by rw [x_lt' hy (by omega)]; exact fun hh => h2' (isI_nI (by omega) hh))]
        · unfold f11_fact
          rw [x_lt, e1, x_bd, if_neg b_10, if_neg km, dd, x_bp]
          by_cases hneg : a2 < 0
          · rw [m_inG hneg, if_pos rfl]
          · obtain ⟨y, hy, rfl⟩ := nI_of hneg
            rw [m_inL hy (by omega), if_neg (fun hh => h2' (isI_nI (by omega) hh)), if_pos rfl]
  · obtain ⟨k1, e1, ch1⟩ := m_logNo (K2 := K2) (n := n) vm0 vg.1 hi
    refine ⟨-2, k1, ?_, ?_, v.z (ch0.tr (RG.up ch1))⟩
    · unfold f0_fact
      rw [c_logNo vg hi, x_bp]; rfl
    · unfold f11_fact
      rw [x_lt, e1, x_bd, if_pos rfl]
end Facts
