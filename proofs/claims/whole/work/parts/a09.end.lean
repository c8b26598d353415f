/-! a change of what is told now; end: both sides alike -/
/-- the reference's images stand -/
def mO (m : Nat) (h h' : Hp) : Prop := (∀ i, 600 ≤ i → h'.1 (m + 1) i = h.1 (m + 1) i) ∧ (∀ i, 1 ≤ i → h'.1 (m + 2) i = h.1 (m + 2) i ∧ h'.1 (m + 3) i = h.1 (m + 3) i ∧ h'.1 (m + 4) i = h.1 (m + 4) i) ∧ (∀ i, 3 ≤ i → h'.1 (m + 5) i = h.1 (m + 5) i) ∧ (∀ i, 244 ≤ i → h'.1 (m + 6) i = h.1 (m + 6) i) ∧ (∀ i, 242 ≤ i → h'.1 (m + 7) i = h.1 (m + 7) i) ∧ (∀ i, 34 ≤ i → h'.1 (m + 8) i = h.1 (m + 8) i) ∧ ∀ i, h'.1 (m + 52) i = h.1 (m + 52) i
section End
variable {K1 K2 : Ly} {n x m : Nat} {h1 h2 h1' h2' : Hp} {g : Gh} {a a1 : Int32}
theorem cT.kp2 {t : Nat} (v : cT t h1 g) (gk : gOk g) (e : ∀ a k, t ≤ a → a < t + 46 → h1'.1 a k = h1.1 a k) : cT t h1' g := by
  have c0 := gk.2.1 0 (by omega)
  have c1 := gk.2.1 1 (by omega)
  have c2 := gk.2.1 2 (by omega)
  obtain ⟨v1, v2, v3, v4, v5, v6, v7, v8⟩ := v
  refine ⟨by rw [e _ _ (by omega) (by omega)]; exact v1, fun i hi => by rw [e _ _ (by omega) (by omega)]; exact v2 i hi, by rw [e _ _ (by omega) (by omega)]; exact v3, by rw [e _ _ (by omega) (by omega)]; exact v4, fun s hs => by rw [e _ _ (by omega) (by omega)]; exact v5 s hs, fun i hi => (v6 i hi).kp (fun a k h1 h2 => e a k (by omega) (by omega)), fun i hi => ?_, fun i hi => ?_⟩
  · obtain ⟨w1, w2⟩ := v7 i hi
    refine ⟨by rw [e _ _ (by omega) (by omega)]; exact w1, fun k hk => ?_⟩
    rw [e _ _ (by omega) (by omega), e _ _ (by omega) (by omega), e _ _ (by omega) (by omega)]; exact w2 k hk
  · obtain ⟨w1, w2⟩ := v8 i hi
    refine ⟨by rw [e _ _ (by omega) (by omega)]; exact w1, fun k hk => ?_⟩
    rw [e _ _ (by omega) (by omega), e _ _ (by omega) (by omega)]; exact w2 k hk
theorem mT.kp2 {s : Nat} (v : mT m h2 s g) (hs : 1 ≤ s) (q : mO m h2 h2') : mT m h2' s g := by
  obtain ⟨q1, q2, q5, q6, q7, q8, -⟩ := q
  obtain ⟨v1, v2, v3, v4, v5, v6, v7, v8⟩ := v
  refine ⟨by rw [(q2 _ hs).1]; exact v1, fun i hi => by rw [q1 _ (by omega)]; exact v2 i hi, by rw [(q2 _ hs).2.1]; exact v3, by rw [(q2 _ hs).2.2]; exact v4, fun k hk => by rw [q5 _ (by omega)]; exact v5 k hk, fun i hi p hp => by rw [q6 _ (by omega)]; exact v6 i hi p hp, fun i hi => ⟨by rw [q7 _ (by omega)]; exact (v7 i hi).1, fun p h1 h2 => by rw [q7 _ (by omega)]; exact (v7 i hi).2 p h1 h2⟩, fun i hi => ⟨by rw [q8 _ (by omega)]; exact (v8 i hi).1, fun p h1 h2 => by rw [q8 _ (by omega)]; exact (v8 i hi).2 p h1 h2⟩⟩
/-- what is told now changes alike, the images stand -/
theorem XX.st {g' : Gh} (v : XX x h1 m h2) (hg : XG x h1' m h2' g') (er : ∀ a k, a < x + 187 → h1'.2.2 a k = h1.2.2 a k) (e : ∀ a k, x + 47 ≤ a → a < x + 187 → h1'.1 a k = h1.1 a k) (hx : cX (x + 210) h1') (q : mO m h2 h2') : XX x h1' m h2' := by
  obtain ⟨v1, v2, v3, v4⟩ := v
  refine ⟨fun z hz i hi => ?_, hx, ⟨g', hg⟩, fun k hk => ?_⟩
  · have := tA_le (x := x) hz
    rw [er _ _ (by omega), er _ _ (by omega), er _ _ (by omega)]
    exact v1 z hz i hi
  · have l1 := tA_le (x := x) (z := k + 1) (by omega)
    have l2 : x + 47 ≤ tA x (k + 1) := by unfold tA; rw [if_neg (by omega)]; omega
    obtain ⟨w1, w2, w3⟩ := v4 k hk
    refine ⟨by rw [er _ _ (by omega)]; exact w1, by rw [e _ _ (by omega) (by omega), q.2.2.2.2.2.2 k]; exact w2, ?_⟩
    rw [e _ _ (by omega) (by omega)]
    rcases w3 with w3 | ⟨w3, g'', w4, w5, w6⟩
    · exact Or.inl w3
    · exact Or.inr ⟨w3, g'', w4, w5.kp2 w4 (fun a k h1 h2 => e a k (by omega) (by omega)), w6.kp2 (by omega) q⟩
theorem both_end (v : XX x h1 m h2) : CC x m (f0_end K1 n x a1 h1) (f11_end K2 n m a1 h2) := by
  obtain ⟨g, vg⟩ := v.2.2.1
  have ch0 : ChM RL m h2 (sI h2 m 0 0) := ChM.F (by simp [RL]) ChM.rf
  have vm0 := vg.2.2.kp ch0 (by decide)
  have gk := vg.1
  have l6 := gk.1.1
  have e1 : (sI h2 m 0 0).1 (m + 2) (0 : Int32).toNatClampNeg = nI (g_l g) := vm0.1
  have e2 : h1.1 (x + 1) 1 = nI (g_l g) := vg.2.1.1
  by_cases hi : isI a1 (g_l g + 1)
  · obtain ⟨k, lk, rfl⟩ := isI_of (by omega) hi
    refine ⟨nI k, sI h1 (x + 1) 1 (nI k), sI (sI h2 m 0 0) (m + 2) 0 (nI k), ?_, ?_, ?_⟩
    · unfold f0_end
      rw [if_neg (nI_pos (by omega)), e2, if_pos (nI_le (by omega) (by omega)), x_lt]
    · unfold f11_end
      rw [x_lt, e1, m_inQ (by omega) (by omega), if_pos (show k ≤ g_l g by omega), if_neg b_10, x_lt]
      rfl
    · have vz := v.z ch0
      have hg : XG x (sI h1 (x + 1) 1 (nI k)) m (sI (sI h2 m 0 0) (m + 2) 0 (nI k)) (g.1, k, g.2.2) := by
        obtain ⟨k1, k2⟩ := gk
        obtain ⟨u1, u2, u3, u4, u5, u6, u7, u8⟩ := vg.2.1
        obtain ⟨w1, w2, w3, w4, w5, w6, w7, w8⟩ := vm0
        have c0 := k2.1 0 (by omega)
        have c1 := k2.1 1 (by omega)
        have c2 := k2.1 2 (by omega)
        refine ⟨⟨⟨by show k ≤ 600; omega, fun i hi => k1.2 i (by have hi : i < k := hi; omega)⟩, k2⟩, ⟨by rw [rI_e]; rfl, fun i hi => ?_, ?_, ?_, fun s hs => ?_, fun i hi => ?_, fun i hi => ?_, fun i hi => ?_⟩, ⟨by rw [rI_e]; rfl, fun i hi => ?_, ?_, ?_, fun s hs => ?_, fun i hi p hp => ?_, fun i hi => ?_, fun i hi => ?_⟩⟩
        · have hi : i < k := hi
          rw [rI_n (by omega)]; exact u2 i (by omega)
        · rw [rI_n (by omega)]; exact u3
        · rw [rI_n (by omega)]; exact u4
        · rw [rI_n (by omega)]; exact u5 s hs
        · exact (u6 i hi).kp (fun a k h1 h2 => by rw [rI_n (by omega)])
        · obtain ⟨t1, t2⟩ := u7 i hi
          refine ⟨by rw [rI_n (by omega)]; exact t1, fun k hk => ?_⟩
          rw [rI_n (by omega), rI_n (by omega), rI_n (by omega)]; exact t2 k hk
        · obtain ⟨t1, t2⟩ := u8 i hi
          refine ⟨by rw [rI_n (by omega)]; exact t1, fun k hk => ?_⟩
          rw [rI_n (by omega), rI_n (by omega)]; exact t2 k hk
        · have hi : i < k := hi
          rw [rI_n (by omega)]; exact w2 i (by omega)
        · rw [rI_n (by omega)]; exact w3
        · rw [rI_n (by omega)]; exact w4
        · rw [rI_n (by omega)]; exact w5 s hs
        · rw [rI_n (by omega)]; exact w6 i hi p hp
        · refine ⟨by rw [rI_n (by omega)]; exact (w7 i hi).1, fun p h1 h2 => ?_⟩
          rw [rI_n (by omega)]; exact (w7 i hi).2 p h1 h2
        · refine ⟨by rw [rI_n (by omega)]; exact (w8 i hi).1, fun p h1 h2 => ?_⟩
          rw [rI_n (by omega)]; exact (w8 i hi).2 p h1 h2
      refine vz.st hg (fun a k ha => rfl) (fun a k h1 h2 => by rw [rI_n (by omega)]) v.2.1 ⟨fun i hi => ?_, fun i hi => ⟨?_, ?_, ?_⟩, fun i hi => ?_, fun i hi => ?_, fun i hi => ?_, fun i hi => ?_, fun i => ?_⟩
      all_goals rw [rI_n (by omega)]
  · refine ⟨-1, h1, sI h2 m 0 0, ?_, ?_, v.z ch0⟩
    · unfold f0_end
      by_cases hneg : a1 < 0
      · rw [if_pos hneg]
      · obtain ⟨y, hy, rfl⟩ := nI_of hneg
        rw [if_neg hneg, e2, if_neg (show ¬ nI y ≤ nI (g_l g) by rw [x_le hy (by omega)]; exact fun hh => hi (isI_nI (by omega) (by omega)))]
    · unfold f11_end
      rw [x_lt, e1, m_inN (by omega) hi, if_pos rfl]
end End
