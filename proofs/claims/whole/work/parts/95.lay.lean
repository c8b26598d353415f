/-! a net and a run taken up, on both sides -/
def isI (a : Int32) (k : Nat) : Prop := ¬ a < 0 ∧ a.toNatClampNeg < k
theorem isI_of {a : Int32} {k : Nat} (hk : k < 2147483648) (h : isI a k) : ∃ i, i < k ∧ a = nI i := by
  obtain ⟨y, hy, rfl⟩ := nI_of h.1
  have := h.2
  rw [x_cl hy] at this
  exact ⟨y, this, rfl⟩
theorem isI_nI {i k : Nat} (hk : k < 2147483648) (h : i < k) : isI (nI i) k := ⟨nI_pos (by omega), by rw [x_cl (by omega)]; exact h⟩
def RL : List Nat := [100, 122, 123, 124, 175, 181]
def RN : List Nat := [122, 123, 124]
def RR : List Nat := [175]
theorem RN.up {m : Nat} {h h' : Hp} (q : ChM RN m h h') : ChM RL m h h' := q.up (by decide)
theorem RR.up {m : Nat} {h h' : Hp} (q : ChM RR m h h') : ChM RL m h h' := q.up (by decide)
section Lay
variable {K1 K2 : Ly} {n x m : Nat} {h1 h2 : Hp} {g : Gh} {a a1 a2 : Int32}
theorem c_netAt {i : Nat} (kx : KX K1 x) (tr : cTr (tA x 0) h1) (v : XG x h1 m h2 g) (hi : i < g_c g 0) : f0_netAt K1 n x (nI i) h1 = some (some (x + 5 + 13 * i)) := by
  have c0 := v.1.2.1 0 (by omega)
  have e1 : h1.1 (x + 1 + 2) (0 : Int32).toNatClampNeg = nI (g_c g 0) := v.2.1.2.2.2.2.1 0 (by omega)
  have e2 : nI i < nI (g_c g 0) := nI_lt hi (by omega)
  have e3 : inb (nI i) 2 = true := x_in (by omega) (by omega)
  have e4 : h1.2.2 (x + 1 + 3) i = some (x + 1 + 4 + 13 * i) := (tr i (by omega)).1
  have e5 : K1 (x + 1 + 4 + 13 * i) = some (.inl 2) := (kx.2 0 (by omega) i (by omega)).1
  unfold f0_netAt
  rw [if_neg (nI_pos (by omega)), e1, if_pos e2, e3, x_gd, x_cl (by omega), e4, x_ob e5, show x + 1 + 4 + 13 * i = x + 5 + 13 * i by omega]
theorem c_netNo (v : XG x h1 m h2 g) (hi : ¬ isI a (g_c g 0)) : f0_netAt K1 n x a h1 = some none := by
  have c0 := v.1.2.1 0 (by omega)
  have e1 : h1.1 (x + 1 + 2) (0 : Int32).toNatClampNeg = nI (g_c g 0) := v.2.1.2.2.2.2.1 0 (by omega)
  unfold f0_netAt f0_netAt_J17
  by_cases ha : a < 0
  · rw [if_pos ha]
  · obtain ⟨y, hy, rfl⟩ := nI_of ha
    have e2 : ¬ nI y < nI (g_c g 0) := nI_nlt (Nat.le_of_not_lt fun hh => hi (isI_nI (by omega) hh)) hy
    rw [if_neg ha, e1, if_neg e2]
theorem c_runAt {i : Nat} (kx : KX K1 x) (tr : cTr (tA x 0) h1) (v : XG x h1 m h2 g) (hi : i < g_c g 1) : f0_runAt K1 n x (nI i) h1 = some (some (x + 32 + 4 * i)) := by
  have c0 := v.1.2.1 1 (by omega)
  have e1 : h1.1 (x + 1 + 2) (1 : Int32).toNatClampNeg = nI (g_c g 1) := v.2.1.2.2.2.2.1 1 (by omega)
  have e2 : nI i < nI (g_c g 1) := nI_lt hi (by omega)
  have e3 : inb (nI i) 2 = true := x_in (by omega) (by omega)
  have e4 : h1.2.2 (x + 1 + 30) i = some (x + 1 + 31 + 4 * i) := (tr i (by omega)).2.1
  have e5 : K1 (x + 1 + 31 + 4 * i) = some (.inl 3) := (kx.2 0 (by omega) i (by omega)).2.1
  unfold f0_runAt
  rw [if_neg (nI_pos (by omega)), e1, if_pos e2, e3, x_gd, x_cl (by omega), e4, x_ob e5, show x + 1 + 31 + 4 * i = x + 32 + 4 * i by omega]
theorem c_runNo (v : XG x h1 m h2 g) (hi : ¬ isI a (g_c g 1)) : f0_runAt K1 n x a h1 = some none := by
  have c0 := v.1.2.1 1 (by omega)
  have e1 : h1.1 (x + 1 + 2) (1 : Int32).toNatClampNeg = nI (g_c g 1) := v.2.1.2.2.2.2.1 1 (by omega)
  unfold f0_runAt f0_runAt_J17
  by_cases ha : a < 0
  · rw [if_pos ha]
  · obtain ⟨y, hy, rfl⟩ := nI_of ha
    have e2 : ¬ nI y < nI (g_c g 1) := nI_nlt (Nat.le_of_not_lt fun hh => hi (isI_nI (by omega) hh)) hy
    rw [if_neg ha, e1, if_neg e2]
/-- the class takes a net and a run up -/
theorem c_two {β : Type} {b : Option β} {F : Nat → Nat → Option β} {i r : Nat} (kx : KX K1 x) (tr : cTr (tA x 0) h1) (v : XG x h1 m h2 g) (hi : i < g_c g 0) (hr : r < g_c g 1) : (bp (f0_netAt K1 n x (nI i) h1) fun y2 => bp (f0_runAt K1 n x (nI r) h1) fun y4 => nl y2 b fun o5 => gd (isO K1 o5 2) (nl y4 b fun o6 => gd (isO K1 o6 3) (F o5 o6))) = F (x + 5 + 13 * i) (x + 32 + 4 * r) := by
  have c0 := v.1.2.1 0 (by omega)
  have c1 := v.1.2.1 1 (by omega)
  have e5 : K1 (x + 5 + 13 * i) = some (.inl 2) := by
    have : K1 (x + 1 + 4 + 13 * i) = some (.inl 2) := (kx.2 0 (by omega) i (by omega)).1
    rw [show x + 5 + 13 * i = x + 1 + 4 + 13 * i by omega]; exact this
  have e6 : K1 (x + 32 + 4 * r) = some (.inl 3) := by
    have : K1 (x + 1 + 31 + 4 * r) = some (.inl 3) := (kx.2 0 (by omega) r (by omega)).2.1
    rw [show x + 32 + 4 * r = x + 1 + 31 + 4 * r by omega]; exact this
  rw [c_netAt kx tr v hi, x_bp, c_runAt kx tr v hr, x_bp]
  show gd (isO K1 (x + 5 + 13 * i) 2) (gd (isO K1 (x + 32 + 4 * r) 3) (F (x + 5 + 13 * i) (x + 32 + 4 * r))) = _
  rw [show isO K1 (x + 5 + 13 * i) 2 = true by simp [isO, e5], show isO K1 (x + 32 + 4 * r) 3 = true by simp [isO, e6], x_gd, x_gd]
theorem c_twoNo {β : Type} {b : Option β} {F : Nat → Nat → Option β} (kx : KX K1 x) (tr : cTr (tA x 0) h1) (v : XG x h1 m h2 g) (hi : ¬ (isI a1 (g_c g 0) ∧ isI a2 (g_c g 1))) : (bp (f0_netAt K1 n x a1 h1) fun y2 => bp (f0_runAt K1 n x a2 h1) fun y4 => nl y2 b fun o5 => gd (isO K1 o5 2) (nl y4 b fun o6 => gd (isO K1 o6 3) (F o5 o6))) = b := by
  have c0 := v.1.2.1 0 (by omega)
  have c1 := v.1.2.1 1 (by omega)
  by_cases q1 : isI a1 (g_c g 0)
  · have q2 : ¬ isI a2 (g_c g 1) := fun hh => hi ⟨q1, hh⟩
    obtain ⟨i, li, rfl⟩ := isI_of (by omega) q1
    have e5 : K1 (x + 5 + 13 * i) = some (.inl 2) := by
      have : K1 (x + 1 + 4 + 13 * i) = some (.inl 2) := (kx.2 0 (by omega) i (by omega)).1
      rw [show x + 5 + 13 * i = x + 1 + 4 + 13 * i by omega]; exact this
    rw [c_netAt kx tr v li, x_bp, c_runNo v q2, x_bp]
    show gd (isO K1 (x + 5 + 13 * i) 2) b = b
    rw [show isO K1 (x + 5 + 13 * i) 2 = true by simp [isO, e5], x_gd]
  · rw [c_netNo v q1, x_bp]
    by_cases q2 : isI a2 (g_c g 1)
    · obtain ⟨i, li, rfl⟩ := isI_of (by omega) q2
      rw [c_runAt kx tr v li]; rfl
    · rw [c_runNo v q2]; rfl
theorem m_hasNet {i : Nat} (v : mT m h2 0 g) (gk : gOk g) (hi : i < g_c g 0) : ∃ g2, f11_hasNet K2 n m (nI i) h2 = some (1, g2) ∧ vMN m g2 (g_N g i) i ∧ ChM RN m h2 g2 := by
  have c0 := gk.2.1 0 (by omega)
  have ch1 : ChM RN m h2 (sI h2 m 22 (nI i)) := ChM.F (by simp [RN]) ChM.rf
  have v1 := v.kp ch1 (by decide)
  have e1 : f11_is K2 n m (0 : Int32) (nI i) (sI h2 m 22 (nI i)) = some 1 := by
    have := m_is (K2 := K2) (n := n) (s := 0) (by omega) (a := nI i) v1 gk
    rw [if_neg (nI_pos (by omega)), x_cl (by omega), if_pos hi] at this
    exact this
  have of : ∀ (p : Nat) (h : Hp), p < 122 → ChM RN m h2 h → h.1 m 22 = nI i → f11_ofNet K2 n m (nI p) h = some (nI (g_N g i p)) := fun p h hp ch h22 => by
    have w := (v.kp ch (by decide)).2.2.2.2.2.1 i hi p hp
    have e0 : (122 : Int32) * nI i + nI p = nI (122 * (2 * 0 + i) + p) := by
      rw [show (122 : Int32) = nI 122 from rfl, pk_mul, nI_add, show 122 * (2 * 0 + i) = 122 * i by omega]
    unfold f11_ofNet
    rw [h22, e0, x_in (by omega) (by omega), x_gd, x_cl (by omega), w]
  have o1 := of 0 _ (by omega) ch1 (by rw [rI_e])
  have ch2 : ChM RN m h2 (sI (sI h2 m 22 (nI i)) m 23 (nI (g_N g i 0))) := ChM.F (by simp [RN]) ch1
  have o2 := of 1 _ (by omega) ch2 (by rw [rI_n (by omega), rI_e])
  have ch3 : ChM RN m h2 (sI (sI (sI h2 m 22 (nI i)) m 23 (nI (g_N g i 0))) m 24 (nI (g_N g i 1))) := ChM.F (by simp [RN]) ch2
  refine ⟨_, ?_, ⟨by omega, ?_, ?_, ?_, fun p hp => ?_⟩, ch3⟩
  · unfold f11_hasNet
    rw [x_lt, e1, x_bp, if_neg b_10, show (0 : Int32) = nI 0 from rfl, o1, x_bp, x_lt, show (1 : Int32) = nI 1 from rfl, o2, x_bp, x_lt]
  · rw [rI_n (by omega), rI_n (by omega), rI_e]
  · rw [rI_n (by omega), rI_e]
  · rw [rI_e]
  · have w := (v.kp ch3 (by decide)).2.2.2.2.2.1 i hi p hp
    rw [show 122 * (2 * 0 + i) + p = 122 * i + p by omega] at w
    exact w
theorem m_netNo (v : mT m h2 0 g) (gk : gOk g) (hi : ¬ isI a (g_c g 0)) : ∃ g2, f11_hasNet K2 n m a h2 = some (0, g2) ∧ ChM RN m h2 g2 := by
  have ch1 : ChM RN m h2 (sI h2 m 22 a) := ChM.F (by simp [RN]) ChM.rf
  have v1 := v.kp ch1 (by decide)
  have e1 : f11_is K2 n m (0 : Int32) a (sI h2 m 22 a) = some 0 := by
    have := m_is (K2 := K2) (n := n) (s := 0) (by omega) (a := a) v1 gk
    by_cases ha : a < 0
    · rw [if_pos ha] at this; exact this
    · rw [if_neg ha, if_neg (fun hh => hi ⟨ha, hh⟩)] at this; exact this
  refine ⟨_, ?_, ch1⟩
  unfold f11_hasNet
  rw [x_lt, e1, x_bp, if_pos rfl]
theorem m_hasRun {i : Nat} (v : mT m h2 0 g) (gk : gOk g) (hi : i < g_c g 1) : ∃ g2, f11_hasRun K2 n m (nI i) h2 = some (1, g2) ∧ vMR m g2 (g_q g i) (g_R g i) i ∧ ChM RR m h2 g2 := by
  have c0 := gk.2.1 1 (by omega)
  have ch1 : ChM RR m h2 (sI h2 m 75 (nI i)) := ChM.F (by simp [RR]) ChM.rf
  have v1 := v.kp ch1 (by decide)
  have e1 : f11_is K2 n m (1 : Int32) (nI i) (sI h2 m 75 (nI i)) = some 1 := by
    have := m_is (K2 := K2) (n := n) (s := 1) (by omega) (a := nI i) v1 gk
    rw [if_neg (nI_pos (by omega)), x_cl (by omega), if_pos hi] at this
    exact this
  obtain ⟨w1, w2⟩ := v1.2.2.2.2.2.2.1 i hi
  rw [show 121 * (2 * 0 + i) = 121 * i by omega] at w1
  refine ⟨_, ?_, ⟨by omega, by rw [rI_e], w1, fun p h1 h2 => ?_⟩, ch1⟩
  · unfold f11_hasRun
    rw [x_lt, e1, x_bp]; rfl
  · have := w2 p h1 h2
    rw [show 121 * (2 * 0 + i) = 121 * i by omega] at this
    exact this
theorem m_runNo (v : mT m h2 0 g) (gk : gOk g) (hi : ¬ isI a (g_c g 1)) : ∃ g2, f11_hasRun K2 n m a h2 = some (0, g2) ∧ ChM RR m h2 g2 := by
  have ch1 : ChM RR m h2 (sI h2 m 75 a) := ChM.F (by simp [RR]) ChM.rf
  have v1 := v.kp ch1 (by decide)
  have e1 : f11_is K2 n m (1 : Int32) a (sI h2 m 75 a) = some 0 := by
    have := m_is (K2 := K2) (n := n) (s := 1) (by omega) (a := a) v1 gk
    by_cases ha : a < 0
    · rw [if_pos ha] at this; exact this
    · rw [if_neg ha, if_neg (fun hh => hi ⟨ha, hh⟩)] at this; exact this
  refine ⟨_, ?_, ch1⟩
  unfold f11_hasRun
  rw [x_lt, e1, x_bp]; rfl
end Lay
