/-! the calls that play a run, on both sides -/
def RQ : List Nat := [100, 122, 123, 124, 175, 181] ++ (11 :: RP)
/-- both sides answer alike and stand alike -/
def CC (x m : Nat) (F1 F2 : Option (Int32 × Hp)) : Prop := ∃ v h1' h2', F1 = some (v, h1') ∧ F2 = some (v, h2') ∧ XX x h1' m h2'
section Calls
variable {K1 K2 : Ly} {n x m : Nat} {h1 h2 : Hp} {g : Gh} {a a1 a2 a3 a4 a5 a6 : Int32}
theorem m_layNo (v : mT m h2 0 g) (gk : gOk g) (hi : ¬ (isI a1 (g_c g 0) ∧ isI a2 (g_c g 1))) : ∃ g2, f11_lay K2 n m a1 a2 h2 = some (0, g2) ∧ ChM RL m h2 g2 := by
  have c0 := gk.2.1 0 (by omega)
  have c1 := gk.2.1 1 (by omega)
  by_cases q2 : isI a2 (g_c g 1)
  · have q1 : ¬ isI a1 (g_c g 0) := fun hh => hi ⟨hh, q2⟩
    obtain ⟨r, lr, rfl⟩ := isI_of (by omega) q2
    obtain ⟨k1, e1, -, ch1⟩ := m_hasRun (K2 := K2) (n := n) v gk lr
    obtain ⟨k2, e2, ch2⟩ := m_netNo (K2 := K2) (n := n) (v.kp ch1 (by decide)) gk q1
    refine ⟨k2, ?_, (RR.up ch1).tr (RN.up ch2)⟩
    unfold f11_lay
    rw [e1, x_bd, if_neg b_10, e2, x_bd, if_pos rfl]
  · obtain ⟨k1, e1, ch1⟩ := m_runNo (K2 := K2) (n := n) v gk q2
    refine ⟨k1, ?_, RR.up ch1⟩
    unfold f11_lay
    rw [e1, x_bd, if_pos rfl]
theorem m_layYes {i r : Nat} (v : mT m h2 0 g) (gk : gOk g) (hi : i < g_c g 0) (hr : r < g_c g 1) : ∃ g2, f11_lay K2 n m (nI i) (nI r) h2 = (bp (f11_begin K2 n m (-1 : Int32) g2) fun h => some ((1 : Int32), h)) ∧ vMN m g2 (g_N g i) i ∧ vMR m g2 (g_q g r) (g_R g r) r ∧ ChM RL m h2 g2 := by
  obtain ⟨k1, e1, w1, ch1⟩ := m_hasRun (K2 := K2) (n := n) v gk hr
  obtain ⟨k2, e2, w2, ch2⟩ := m_hasNet (K2 := K2) (n := n) (v.kp ch1 (by decide)) gk hi
  refine ⟨k2, ?_, w2, w1.kp ch2 (by decide), (RR.up ch1).tr (RN.up ch2)⟩
  · unfold f11_lay
    rw [e1, x_bd, if_neg b_10, e2, x_bd, if_neg b_10]
/-- a net and a run are there, and both sides play it -/
theorem both_lay {i r q' : Nat} (kx : KX K1 x) (hn : 5000 ≤ n) (v : XX x h1 m h2) (vg : XG x h1 m h2 g) (hi : i < g_c g 0) (hr : r < g_c g 1) (hq : q' ≤ g_q g r) : ∃ (y : Nat) (h1' g2 h2' : Hp) (st : St), f10_replay K1 n (x + 210) (x + 5 + 13 * i) (x + 32 + 4 * r) (nI q') (-1) h1 = some (nI y, h1') ∧ f11_lay K2 n m (nI i) (nI r) (sI h2 m 0 0) = some (1, g2) ∧ f11_deeds K2 n m g2 = some (nI (g_q g r)) ∧ f11_play K2 n m (nI q') g2 = some (nI y, h2') ∧ y ≤ q' ∧ WW K1 (x + 210) h1' (x + 5 + 13 * i) m h2' i (g_N g i) (-1) 60 st ∧ (∀ k', s_B st k' 8 = 1 ↔ (k' < y ∧ isA (g_R g r) k')) ∧ h1'.1 (x + 210 + 22) 6 = h2'.1 m 76 ∧ XX x h1' m h2' ∧ XX x h1 m g2 ∧ XG x h1' m h2' g ∧ (∀ a k, (a < x + 210 ∨ x + 1037 ≤ a) → h1'.1 a k = h1.1 a k) ∧ XX x h1 m h2' := by
  have gk := vg.1
  have c0 := gk.2.1 0 (by omega)
  have c1 := gk.2.1 1 (by omega)
  have ch0 : ChM RL m h2 (sI h2 m 0 0) := ChM.F (by simp [RL]) ChM.rf
  obtain ⟨k2, e2, w1, w2, ch1⟩ := m_layYes (K2 := K2) (n := n) (vg.2.2.kp ch0 (by decide)) gk hi hr
  have ko : K1 (x + 5 + 13 * i) = some (.inl 2) := by
    have : K1 (x + 1 + 4 + 13 * i) = some (.inl 2) := (kx.2 0 (by omega) i (by omega)).1
    rw [show x + 5 + 13 * i = x + 1 + 4 + 13 * i by omega]; exact this
  have vn : vN (x + 5 + 13 * i) h1 (g_N g i) := by
    have := vg.2.1.2.2.2.2.2.1 i hi
    rw [show x + 1 + 4 + 13 * i = x + 5 + 13 * i by omega] at this
    exact this
  have vr : vR (x + 32 + 4 * r) h1 (g_q g r) (g_R g r) := by
    have := vg.2.1.2.2.2.2.2.2.1 r hr
    rw [show x + 1 + 31 + 4 * r = x + 32 + 4 * r by omega] at this
    exact this
  obtain ⟨y, h1', g2, h2', st, f1, f2, f3, f4, f5, f6, f7, f8, f9, f10⟩ := both_run (K2 := K2) (n := n) (aw := -1) (gk.2.2.1 i hi) kx.1 hn (gk.2.2.2.1 r hr) (by omega) hq v.2.1 (by omega) ko vn w1 vr w2
  have up1 : ∀ {h h' : Hp}, ChM RL m h h' → ChM RQ m h h' := fun q => q.up (by decide)
  have up2 : ∀ {h h' : Hp}, ChM (11 :: RP) m h h' → ChM RQ m h h' := fun q => q.up (by decide)
  have t1 : ChM RQ m h2 g2 := ((up1 ch0).tr (up1 ch1)).tr (up2 f10)
  have t2 : ChM RQ m h2 h2' := ((up1 ch0).tr (up1 ch1)).tr (up2 f9)
  refine ⟨y, h1', g2, h2', st, f1, ?_, ?_, f3, f4, f5, f6, f7, v.kp (fun a k ha => ⟨(f8 a k (by omega)).1, (f8 a k (by omega)).2.2⟩) f5.1.1.x t2 (by decide), v.kp (fun a k ha => ⟨rfl, rfl⟩) v.2.1 t1 (by decide), vg.kp (fun a k ha => (f8 a k (by omega)).1) t2 (by decide), fun a k ha => (f8 a k (by omega)).1, v.kp (fun a k ha => ⟨rfl, rfl⟩) v.2.1 t2 (by decide)⟩
  · rw [e2, f2, x_bp]
  · exact m_deeds (w2.kp f10 (by decide))
end Calls
