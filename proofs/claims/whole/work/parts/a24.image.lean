section CopyM
variable {K : Ly} {n m : Nat}
theorem m_copyRow {a len w f t : Nat} (hw : w ≤ 4000) (hl : len < 100000) (hf : w * f + w ≤ len) (ht : w * t + w ≤ len) (ne : w * f + w ≤ w * t ∨ w * t + w ≤ w * f) (hn : 5000 ≤ n) (h : Hp) : ∃ h', f11_copyRow K n a len (nI w) (nI f) (nI t) h = some h' ∧ h'.2 = h.2 ∧ (∀ b k, ¬ (b = a ∧ w * t ≤ k ∧ k < w * t + w) → h'.1 b k = h.1 b k) ∧ ∀ k, k < w → h'.1 a (w * t + k) = h.1 a (w * f + k) := by
  have go : ∀ (d i fu : Nat) (h : Hp), i + d = w → d < fu → ∃ h', f11_copyRow_L3 K n len a (nI w) (nI f) (nI t) fu (nI i) h = some h' ∧ h'.2 = h.2 ∧ (∀ b k, ¬ (b = a ∧ w * t + i ≤ k ∧ k < w * t + w) → h'.1 b k = h.1 b k) ∧ ∀ k, i ≤ k → k < w → h'.1 a (w * t + k) = h.1 a (w * f + k) := by
    intro d
    induction d with
    | zero =>
      intro i fu h hi hfu
      obtain ⟨fu, rfl⟩ : ∃ g, fu = g + 1 := ⟨fu - 1, by omega⟩
      have e1 : nI w ≤ nI i := nI_le (by omega) (by omega)
      exact ⟨h, by rw [f11_copyRow_L3, if_pos e1], rfl, fun _ _ _ => rfl, fun k h1 h2 => by omega⟩
    | succ d ih =>
      intro i fu h hi hfu
      obtain ⟨fu, rfl⟩ : ∃ g, fu = g + 1 := ⟨fu - 1, by omega⟩
      have e1 : ¬ nI w ≤ nI i := nI_ge (by omega) (by omega)
      have e2 : nI w * nI f + nI i = nI (w * f + i) := by rw [pk_mul, nI_add]
      have e3 : nI w * nI t + nI i = nI (w * t + i) := by rw [pk_mul, nI_add]
      obtain ⟨h', q1, q2, q3, q4⟩ := ih (i + 1) fu (sI h a (w * t + i) (h.1 a (w * f + i))) (by omega) (by omega)
      refine ⟨h', ?_, q2, fun b k hb => ?_, fun k h1 h2 => ?_⟩
      · rw [f11_copyRow_L3, if_neg e1, e2, e3, x_in (show w * f + i < len by omega) (by omega), x_gd, x_in (show w * t + i < len by omega) (by omega), x_gd, x_lt, x_lt, nI_1, x_cl (by omega), x_cl (by omega)]
        exact q1
      · rw [q3 b k (by omega), rI_n (by omega)]
      · by_cases hk : k = i
        · subst hk; rw [q3 _ _ (by omega), rI_e]
        · rw [q4 k (by omega) h2, rI_n (by omega)]
  obtain ⟨h', q1, q2, q3, q4⟩ := go w 0 n h (by omega) (by omega)
  exact ⟨h', q1, q2, fun b k hb => q3 b k (by omega), fun k hk => q4 k (by omega) hk⟩
theorem m_copyTape {f t : Nat} (hf : f < 4) (ht : t < 4) (ne : f ≠ t) : ∀ (d i fu : Nat) (h : Hp), i + d = 600 → d < fu → ∃ h', f11_copyAll_L2 K n m (nI f) (nI t) fu (nI i) h = f11_copyAll_L2 K n m (nI f) (nI t) (fu - d) (nI 600) h' ∧ h'.2 = h.2 ∧ (∀ b k, ¬ (b = m + 1 ∧ 600 * t + i ≤ k ∧ k < 600 * t + 600) → h'.1 b k = h.1 b k) ∧ ∀ k, i ≤ k → k < 600 → h'.1 (m + 1) (600 * t + k) = (h.1 (m + 1) (600 * f + k)).toInt8.toInt32 := by
  intro d
  induction d with
  | zero =>
    intro i fu h hi hfu
    exact ⟨h, by rw [show i = 600 by omega, Nat.sub_zero], rfl, fun _ _ _ => rfl, fun k h1 h2 => by omega⟩
  | succ d ih =>
    intro i fu h hi hfu
    obtain ⟨fu, rfl⟩ : ∃ g, fu = g + 1 := ⟨fu - 1, by omega⟩
    have e1 : ¬ (600 : Int32) ≤ nI i := by rw [l_600]; exact nI_ge (by omega) (by omega)
    have e2 : (600 : Int32) * nI f + nI i = nI (600 * f + i) := by rw [l_600, pk_mul, nI_add]
    have e3 : (600 : Int32) * nI t + nI i = nI (600 * t + i) := by rw [l_600, pk_mul, nI_add]
    obtain ⟨h', q1, q2, q3, q4⟩ := ih (i + 1) fu (sI h (m + 1) (600 * t + i) (h.1 (m + 1) (600 * f + i)).toInt8.toInt32) (by omega) (by omega)
    refine ⟨h', ?_, q2, fun b k hb => ?_, fun k h1 h2 => ?_⟩
    · rw [f11_copyAll_L2, if_neg e1, e2, e3, x_in (show 600 * f + i < 2400 by omega) (by omega), x_gd, x_in (show 600 * t + i < 2400 by omega) (by omega), x_gd, x_lt, x_lt, nI_1, x_cl (by omega), x_cl (by omega), show fu + 1 - (d + 1) = fu - d by omega]
      exact q1
    · rw [q3 b k (by omega), rI_n (by omega)]
    · by_cases hk : k = i
      · subst hk; rw [q3 _ _ (by omega), rI_e]
      · rw [q4 k (by omega) h2, rI_n (by omega)]
/-- the reference copies a row of what is told -/
theorem m_copyAll {f t : Nat} (hf : f < 4) (ht : t < 4) (ne : f ≠ t) (hn : 5000 ≤ n) (h : Hp) {g : Gh} (gk : gOk g) (v : mT m h f g) : ∃ h', f11_copyAll K n m (nI f) (nI t) h = some h' ∧ h'.2 = h.2 ∧ mT m h' t g ∧ (∀ s g', gOk g' → s < 4 → s ≠ t → mT m h s g' → mT m h' s g') ∧ ∀ k, h'.1 (m + 52) k = h.1 (m + 52) k := by
  have g1 := gk.2.1 0 (by omega)
  have g2 := gk.2.1 1 (by omega)
  have g3 := gk.2.1 2 (by omega)
  have l6 := gk.1.1
  obtain ⟨p0, a1, a2, a3, a4⟩ := m_copyTape (K := K) (n := n) (m := m) hf ht ne 600 0 n h (by omega) (by omega)
  obtain ⟨p1, b1, b2, b3, b4⟩ := m_copyRow (K := K) (n := n) (a := m + 2) (len := 4) (w := 1) (f := f) (t := t) (by omega) (by omega) (by omega) (by omega) (by omega) hn p0
  obtain ⟨p2, c1, c2, c3, c4⟩ := m_copyRow (K := K) (n := n) (a := m + 3) (len := 4) (w := 1) (f := f) (t := t) (by omega) (by omega) (by omega) (by omega) (by omega) hn p1
  obtain ⟨p3, d1, d2, d3, d4⟩ := m_copyRow (K := K) (n := n) (a := m + 4) (len := 4) (w := 1) (f := f) (t := t) (by omega) (by omega) (by omega) (by omega) (by omega) hn p2
  obtain ⟨p4, e1, e2, e3, e4⟩ := m_copyRow (K := K) (n := n) (a := m + 5) (len := 12) (w := 3) (f := f) (t := t) (by omega) (by omega) (by omega) (by omega) (by omega) hn p3
  obtain ⟨p5, f1, f2, f3, f4⟩ := m_copyRow (K := K) (n := n) (a := m + 6) (len := 976) (w := 244) (f := f) (t := t) (by omega) (by omega) (by omega) (by omega) (by omega) hn p4
  obtain ⟨p6, i1, i2, i3, i4⟩ := m_copyRow (K := K) (n := n) (a := m + 7) (len := 968) (w := 242) (f := f) (t := t) (by omega) (by omega) (by omega) (by omega) (by omega) hn p5
  obtain ⟨p7, j1, j2, j3, j4⟩ := m_copyRow (K := K) (n := n) (a := m + 8) (len := 136) (w := 34) (f := f) (t := t) (by omega) (by omega) (by omega) (by omega) (by omega) hn p6
  -- what each cell holds
  have r1 : ∀ k, p7.1 (m + 1) k = p0.1 (m + 1) k := fun k => by
    rw [j3 _ _ (by omega), i3 _ _ (by omega), f3 _ _ (by omega), e3 _ _ (by omega), d3 _ _ (by omega), c3 _ _ (by omega), b3 _ _ (by omega)]
  have r2 : ∀ k, p7.1 (m + 2) k = p1.1 (m + 2) k ∧ p0.1 (m + 2) k = h.1 (m + 2) k := fun k => by
    rw [j3 _ _ (by omega), i3 _ _ (by omega), f3 _ _ (by omega), e3 _ _ (by omega), d3 _ _ (by omega), c3 _ _ (by omega), a3 _ _ (by omega)]; exact ⟨rfl, rfl⟩
  have r3 : ∀ k, p7.1 (m + 3) k = p2.1 (m + 3) k ∧ p1.1 (m + 3) k = h.1 (m + 3) k := fun k => by
    rw [j3 _ _ (by omega), i3 _ _ (by omega), f3 _ _ (by omega), e3 _ _ (by omega), d3 _ _ (by omega), b3 _ _ (by omega), a3 _ _ (by omega)]; exact ⟨rfl, rfl⟩
  have r4 : ∀ k, p7.1 (m + 4) k = p3.1 (m + 4) k ∧ p2.1 (m + 4) k = h.1 (m + 4) k := fun k => by
    rw [j3 _ _ (by omega), i3 _ _ (by omega), f3 _ _ (by omega), e3 _ _ (by omega), c3 _ _ (by omega), b3 _ _ (by omega), a3 _ _ (by omega)]; exact ⟨rfl, rfl⟩
  have r5 : ∀ k, p7.1 (m + 5) k = p4.1 (m + 5) k ∧ p3.1 (m + 5) k = h.1 (m + 5) k := fun k => by
    rw [j3 _ _ (by omega), i3 _ _ (by omega), f3 _ _ (by omega), d3 _ _ (by omega), c3 _ _ (by omega), b3 _ _ (by omega), a3 _ _ (by omega)]; exact ⟨rfl, rfl⟩
  have r6 : ∀ k, p7.1 (m + 6) k = p5.1 (m + 6) k ∧ p4.1 (m + 6) k = h.1 (m + 6) k := fun k => by
    rw [j3 _ _ (by omega), i3 _ _ (by omega), e3 _ _ (by omega), d3 _ _ (by omega), c3 _ _ (by omega), b3 _ _ (by omega), a3 _ _ (by omega)]; exact ⟨rfl, rfl⟩
  have r7 : ∀ k, p7.1 (m + 7) k = p6.1 (m + 7) k ∧ p5.1 (m + 7) k = h.1 (m + 7) k := fun k => by
    rw [j3 _ _ (by omega), f3 _ _ (by omega), e3 _ _ (by omega), d3 _ _ (by omega), c3 _ _ (by omega), b3 _ _ (by omega), a3 _ _ (by omega)]; exact ⟨rfl, rfl⟩
  have r8 : ∀ k, p6.1 (m + 8) k = h.1 (m + 8) k := fun k => by
    rw [i3 _ _ (by omega), f3 _ _ (by omega), e3 _ _ (by omega), d3 _ _ (by omega), c3 _ _ (by omega), b3 _ _ (by omega), a3 _ _ (by omega)]
  obtain ⟨v1, v2, v3, v4, v5, v6, v7, v8⟩ := v
  refine ⟨p7, ?_, by rw [j2, i2, f2, e2, d2, c2, b2, a2], ⟨?_, fun i hi => ?_, ?_, ?_, fun k hk => ?_, fun i hi p hp => ?_, fun i hi => ⟨?_, fun p q1 q2 => ?_⟩, fun i hi => ⟨?_, fun p q1 q2 => ?_⟩⟩, fun s g' gk' hs hst v' => ?_, fun k => ?_⟩
  · have e9 : (600 : Int32) ≤ nI 600 := by decide
    obtain ⟨nf, hnf⟩ : ∃ nf, n - 600 = nf + 1 := ⟨n - 600 - 1, by omega⟩
    unfold f11_copyAll
    rw [l_0, a1, hnf, f11_copyAll_L2, if_pos e9, show (1 : Int32) = nI 1 from rfl, b1, x_bp, c1, x_bp, d1, x_bp, l_3, e1, x_bp, show (244 : Int32) = nI 244 from rfl, f1, x_bp, show (242 : Int32) = nI 242 from rfl, i1, x_bp, show (34 : Int32) = nI 34 from rfl, j1, x_bp]
  · have := b4 0 (by omega)
    rw [show 1 * t + 0 = t by omega, show 1 * f + 0 = f by omega] at this
    rw [(r2 _).1, this, (r2 _).2]; exact v1
  · rw [r1, a4 i (by omega) (by omega), v2 i hi]; exact gk.1.2 i hi
  · have := c4 0 (by omega)
    rw [show 1 * t + 0 = t by omega, show 1 * f + 0 = f by omega] at this
    rw [(r3 _).1, this, (r3 _).2]; exact v3
  · have := d4 0 (by omega)
    rw [show 1 * t + 0 = t by omega, show 1 * f + 0 = f by omega] at this
    rw [(r4 _).1, this, (r4 _).2]; exact v4
  · rw [(r5 _).1, e4 k hk, (r5 _).2]; exact v5 k hk
  · have := f4 (122 * i + p) (by omega)
    rw [show 122 * (2 * t + i) + p = 244 * t + (122 * i + p) by omega, (r6 _).1, this, (r6 _).2, show 244 * f + (122 * i + p) = 122 * (2 * f + i) + p by omega]
    exact v6 i hi p hp
  · have := i4 (121 * i) (by omega)
    rw [show 121 * (2 * t + i) = 242 * t + 121 * i by omega, (r7 _).1, this, (r7 _).2, show 242 * f + 121 * i = 121 * (2 * f + i) by omega]
    exact (v7 i hi).1
  · have := i4 (121 * i + p) (by omega)
    rw [show 121 * (2 * t + i) + p = 242 * t + (121 * i + p) by omega, (r7 _).1, this, (r7 _).2, show 242 * f + (121 * i + p) = 121 * (2 * f + i) + p by omega]
    exact (v7 i hi).2 p q1 q2
  · have := j4 (17 * i) (by omega)
    rw [show 17 * (2 * t + i) = 34 * t + 17 * i by omega, this, r8, show 34 * f + 17 * i = 17 * (2 * f + i) by omega]
    exact (v8 i hi).1
  · have := j4 (17 * i + p) (by omega)
    rw [show 17 * (2 * t + i) + p = 34 * t + (17 * i + p) by omega, this, r8, show 34 * f + (17 * i + p) = 17 * (2 * f + i) + p by omega]
    exact (v8 i hi).2 p q1 q2
  · have y1 := gk'.2.1 0 (by omega)
    have y2 := gk'.2.1 1 (by omega)
    have y3 := gk'.2.1 2 (by omega)
    have y6 := gk'.1.1
    obtain ⟨w1, w2, w3, w4, w5, w6, w7, w8⟩ := v'
    refine ⟨?_, fun i hi => ?_, ?_, ?_, fun k hk => ?_, fun i hi p hp => ?_, fun i hi => ⟨?_, fun p q1 q2 => ?_⟩, fun i hi => ⟨?_, fun p q1 q2 => ?_⟩⟩
    · rw [(r2 _).1, b3 _ _ (by omega), (r2 _).2]; exact w1
    · rw [r1, a3 _ _ (by omega)]; exact w2 i hi
    · rw [(r3 _).1, c3 _ _ (by omega), (r3 _).2]; exact w3
    · rw [(r4 _).1, d3 _ _ (by omega), (r4 _).2]; exact w4
    · rw [(r5 _).1, e3 _ _ (by omega), (r5 _).2]; exact w5 k hk
    · rw [(r6 _).1, f3 _ _ (by omega), (r6 _).2]; exact w6 i hi p hp
    · rw [(r7 _).1, i3 _ _ (by omega), (r7 _).2]; exact (w7 i hi).1
    · rw [(r7 _).1, i3 _ _ (by omega), (r7 _).2]; exact (w7 i hi).2 p q1 q2
    · rw [j3 _ _ (by omega), r8]; exact (w8 i hi).1
    · rw [j3 _ _ (by omega), r8]; exact (w8 i hi).2 p q1 q2
  · rw [j3 _ _ (by omega), i3 _ _ (by omega), f3 _ _ (by omega), e3 _ _ (by omega), d3 _ _ (by omega), c3 _ _ (by omega), b3 _ _ (by omega), a3 _ _ (by omega)]
end CopyM
section ImageC
variable {K1 K2 : Ly} {n x m : Nat} {h1 h2 : Hp} {a1 : Int32}
theorem KX.t (kx : KX K1 x) {z : Nat} (hz : z < 4) : KT K1 (tA x z) := fun i hi => kx.2 z hz i hi
theorem both_image (kx : KX K1 x) (ki : ∀ k, k < 3 → K1 (tA x (k + 1)) = some (.inl 1)) (hn : 5000 ≤ n) (v : XX x h1 m h2) : CC x m (f0_image K1 n x a1 h1) (f11_image K2 n m a1 h2) := by
  obtain ⟨g, vg⟩ := v.2.2.1
  have ch0 : ChM RL m h2 (sI h2 m 0 0) := ChM.F (by simp [RL]) ChM.rf
  have vz := v.z ch0
  have gz : XG x h1 m (sI h2 m 0 0) g := ⟨vg.1, vg.2.1, vg.2.2.kp ch0 (by decide)⟩
  by_cases hi : isI a1 3
  · obtain ⟨k, lk, rfl⟩ := isI_of (by omega) hi
    have e1 : nI k < (3 : Int32) := by rw [l_3]; exact nI_lt lk (by omega)
    have w1 := (v.2.2.2 k lk).1
    have t1 : tA x 0 = x + 1 := rfl
    have t2 : tA x (k + 1) = x + 2 + 46 * (k + 1) := by unfold tA; rw [if_neg (by omega)]
    obtain ⟨p1, a1, a2, a3, a4⟩ := c1copy (K := K1) (n := n) (d := tA x (k + 1)) (s := x + 1) hn (by rw [t2]; omega) (kx.t (by omega)) (kx.t (z := 0) (by omega)) (v.1 (k + 1) (by omega)) (v.1 0 (by omega)) vg.1 vg.2.1
    obtain ⟨p2, b1, b2, b3, b4, b5⟩ := m_copyAll (K := K2) (n := n) (m := m) (f := 0) (t := k + 1) (by omega) (by omega) (by omega) hn _ vg.1 gz.2.2
    refine ⟨1, sI p1 (x + 186) k 1, sI p2 (m + 52) k 1, ?_, ?_, ?_⟩
    · unfold f0_image
      rw [if_neg (nI_pos (by omega)), if_pos e1, x_in lk (by omega), x_gd, x_cl (by omega), w1, x_ob (ki k lk), a1, x_bp, x_gd, x_lt]
    · unfold f11_image
      have b1 : f11_copyAll K2 n m (0 : Int32) (nI (k + 1)) (sI h2 m 0 0) = some p2 := b1
      rw [x_lt, (isI_3 hi).2.2, if_neg b_10, nI_1, b1, x_bp, x_in lk (by omega), x_gd, x_lt, x_cl (by omega)]
    · have r1 : (sI p1 (x + 186) k 1).2 = h1.2 := a2
      have mk : ∀ {s : Nat} {g' : Gh}, mT m p2 s g' → mT m (sI p2 (m + 52) k 1) s g' := fun w => w.kp (R := [52]) (ChM.A (by omega) (by simp) ChM.rf) (by decide)
      have f1 : ∀ b j, ¬ (tA x (k + 1) ≤ b ∧ b < tA x (k + 1) + 46) → b ≠ x + 186 → (sI p1 (x + 186) k 1).1 b j = h1.1 b j := fun b j h1 h2 => by
        rw [rI_n (by omega), a3 b j h1]
      rw [t2] at f1
      refine ⟨fun z hz => ?_, v.2.1.kp1 r1, ⟨g, vg.1, ?_, mk (b4 0 g vg.1 (by omega) (by omega) gz.2.2)⟩, fun j hj => ⟨?_, ?_, ?_⟩⟩
      · have := v.1 z hz
        unfold cTr at this ⊢
        rw [r1]; exact this
      · exact vg.2.1.kp2 vg.1 (fun a j h1 h2 => f1 a j (by omega) (by omega))
      · rw [r1]; exact (v.2.2.2 j hj).1
      · by_cases hjk : j = k
        · subst hjk; rw [rI_e, rI_e]
        · have := (vz.2.2.2 j hj).2.1
          rw [rI_n (by omega), rI_n (by omega), a3 _ _ (by rw [t2]; omega), b5, this]
      · by_cases hjk : j = k
        · subst hjk
          refine Or.inr ⟨rI_e, g, vg.1, ?_, mk b3⟩
          exact a4.kp2 vg.1 (fun a i h1 h2 => rI_n (by rw [t2] at h2; omega))
        · have t3 : tA x (j + 1) = x + 2 + 46 * (j + 1) := by unfold tA; rw [if_neg (by omega)]
          rw [rI_n (by omega), a3 _ _ (by rw [t2]; omega)]
          rcases (vz.2.2.2 j hj).2.2 with w3 | ⟨w3, g', w4, w5, w6⟩
          · exact Or.inl w3
          · refine Or.inr ⟨w3, g', w4, ?_, mk (b4 (j + 1) g' w4 (by omega) (by omega) w6)⟩
            refine w5.kp2 w4 (fun a i h1 h2 => ?_)
            rw [t3] at h1 h2
            exact f1 a i (by omega) (by omega)
  · refine ⟨0, h1, _, ?_, ?_, vz⟩
    · unfold f0_image
      by_cases hneg : a1 < 0
      · rw [if_pos hneg]
      · obtain ⟨y, hy, rfl⟩ := nI_of hneg
        have e1 : ¬ nI y < (3 : Int32) := by rw [l_3, x_lt' hy (by omega)]; exact fun hh => hi (isI_nI (by omega) hh)
        rw [if_neg hneg, if_neg e1]
    · unfold f11_image
      rw [x_lt, m_in2 hi, if_pos rfl]
theorem both_again (kx : KX K1 x) (ki : ∀ k, k < 3 → K1 (tA x (k + 1)) = some (.inl 1)) (hn : 5000 ≤ n) (v : XX x h1 m h2) : CC x m (f0_again K1 n x a1 h1) (f11_again K2 n m a1 h2) := by
  have ch0 : ChM RL m h2 (sI h2 m 0 0) := ChM.F (by simp [RL]) ChM.rf
  have vz := v.z ch0
  by_cases hi : isI a1 3
  · obtain ⟨k, lk, rfl⟩ := isI_of (by omega) hi
    have e1 : ¬ (3 : Int32) ≤ nI k := by rw [l_3]; exact nI_ge lk (by omega)
    obtain ⟨w1, w2, w3⟩ := vz.2.2.2 k lk
    have t1 : tA x 0 = x + 1 := rfl
    have t2 : tA x (k + 1) = x + 2 + 46 * (k + 1) := by unfold tA; rw [if_neg (by omega)]
    have cs : f0_again K1 n x (nI k) h1 = if h1.1 (x + 186) k = 0 then some (0, h1) else bp (f1_copy K1 n (x + 1) (tA x (k + 1)) h1) fun h8 => some (1, h8) := by
      unfold f0_again
      rw [if_neg (nI_pos (by omega)), if_neg e1, x_in lk (by omega), x_gd, x_gd, x_cl (by omega), w1, x_ob (ki k lk)]
    have ms : f11_again K2 n m (nI k) h2 = if h1.1 (x + 186) k = 0 then some (0, sI h2 m 0 0) else bp (f11_copyAll K2 n m (nI (k + 1)) (nI 0) (sI h2 m 0 0)) fun h6 => some (1, h6) := by
      unfold f11_again
      rw [x_lt, (isI_3 hi).2.2, if_neg b_10, x_in lk (by omega), x_gd, x_cl (by omega), ← w2, nI_1]; rfl
    rw [cs, ms]
    rcases w3 with w3 | ⟨w3, g, w4, w5, w6⟩
    · exact ⟨0, h1, _, by rw [if_pos w3], by rw [if_pos w3], vz⟩
    · have n0 : ¬ h1.1 (x + 186) k = 0 := by rw [w3]; exact b_10
      rw [if_neg n0, if_neg n0]
      obtain ⟨p1, a1, a2, a3, a4⟩ := c1copy (K := K1) (n := n) (d := x + 1) (s := tA x (k + 1)) hn (by rw [t2]; omega) (kx.t (z := 0) (by omega)) (kx.t (by omega)) (v.1 0 (by omega)) (v.1 (k + 1) (by omega)) w4 w5
      obtain ⟨p2, b1, b2, b3, b4, b5⟩ := m_copyAll (K := K2) (n := n) (m := m) (f := k + 1) (t := 0) (by omega) (by omega) (by omega) hn _ w4 w6
      refine ⟨1, p1, p2, by rw [a1, x_bp], by rw [b1, x_bp], fun z hz => ?_, v.2.1.kp1 a2, ⟨g, w4, a4, b3⟩, fun j hj => ⟨?_, ?_, ?_⟩⟩
      · have := v.1 z hz
        unfold cTr at this ⊢
        rw [a2]; exact this
      · rw [a2]; exact (v.2.2.2 j hj).1
      · rw [a3 _ _ (by omega), b5]; exact (vz.2.2.2 j hj).2.1
      · have t3 : tA x (j + 1) = x + 2 + 46 * (j + 1) := by unfold tA; rw [if_neg (by omega)]
        rw [a3 _ _ (by omega)]
        rcases (vz.2.2.2 j hj).2.2 with w3 | ⟨w3, g', w4, w5, w6⟩
        · exact Or.inl w3
        · refine Or.inr ⟨w3, g', w4, w5.kp2 w4 (fun a i h1 h2 => ?_), b4 (j + 1) g' w4 (by omega) (by omega) w6⟩
          rw [t3] at h1 h2
          exact a3 a i (by omega)
  · refine ⟨0, h1, _, ?_, ?_, vz⟩
    · unfold f0_again
      by_cases hneg : a1 < 0
      · rw [if_pos hneg]
      · obtain ⟨y, hy, rfl⟩ := nI_of hneg
        have e1 : (3 : Int32) ≤ nI y := by rw [l_3]; exact nI_le (Nat.le_of_not_lt fun hh => hi (isI_nI (by omega) hh)) (by omega)
        rw [if_neg hneg, if_pos e1]
    · unfold f11_again
      rw [x_lt, m_in2 hi, if_pos rfl]
end ImageC
