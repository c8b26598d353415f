/-! what was got, and the mean: both sides alike -/
def gN (st : St) (k : Nat) : Bool := decide (s_B st k 8 = 1) && decide (s_B st k 0 = 1)
def gD (st : St) (k : Nat) : Nat := (s_B st k 2).toNatClampNeg - (s_B st k 1).toNatClampNeg
def gC (st : St) : Nat → Nat → Nat
  | 0, _ => 0
  | d + 1, i => (if gN st i = true then 1 else 0) + gC st d (i + 1)
def gS (st : St) : Nat → Nat → Nat
  | 0, _ => 0
  | d + 1, i => (if gN st i = true then gD st i else 0) + gS st d (i + 1)
theorem gC_z {st : St} {y : Nat} (h : ∀ k, y ≤ k → gN st k = false) : ∀ d i, y ≤ i → gC st d i = 0 ∧ gS st d i = 0 := by
  intro d
  induction d with
  | zero => exact fun i _ => ⟨rfl, rfl⟩
  | succ d ih =>
    intro i hi
    have := ih (i + 1) (by omega)
    simp only [gC, gS, h i hi, this.1, this.2, Bool.false_eq_true, if_false, and_self]
theorem gC_w {st : St} {y : Nat} (h : ∀ k, y ≤ k → gN st k = false) : ∀ d i e, i + d = y → gC st (d + e) i = gC st d i ∧ gS st (d + e) i = gS st d i := by
  intro d
  induction d with
  | zero =>
    intro i e hi
    have := gC_z h e i (by omega)
    rw [Nat.zero_add]
    exact ⟨this.1, this.2⟩
  | succ d ih =>
    intro i e hi
    have := ih (i + 1) e (by omega)
    rw [show d + 1 + e = d + e + 1 by omega]
    simp only [gC, gS, this.1, this.2, and_self]
section Mean
variable {K1 K2 : Ly} {n x m c o j kb : Nat} {h1 h2 : Hp} {N : Nat → Nat} {aw : Int32} {st : St} {R : Nat → Int32}
theorem gG {k : Nat} (V : WW K1 c h1 o m h2 j N aw kb st) (h : gN st k = true) : ∃ a b, a ≤ b ∧ b ≤ 99 ∧ s_B st k 1 = nI a ∧ s_B st k 2 = nI b ∧ gD st k = b - a := by
  have ⟨q1, q2⟩ : s_B st k 8 = 1 ∧ s_B st k 0 = 1 := by simpa [gN] using h
  obtain ⟨⟨vc, vm, I⟩, dk⟩ := id V
  obtain ⟨-, -, gg⟩ := I.2.2.2.2.2.2.2.1 k q1
  have l99 := I.2.1
  rcases gg with gg | gg | gg | gg
  · rw [gg.1] at q2; exact absurd q2 (by decide)
  · obtain ⟨-, ⟨a, b, p1, p2, p3, p4⟩, -⟩ := gg
    refine ⟨a, b, p1, by omega, p3, p4, ?_⟩
    unfold gD
    rw [p3, p4, x_cl (by omega), x_cl (by omega)]
  · rw [gg.1] at q2; exact absurd q2 (by decide)
  · rw [gg.1] at q2; exact absurd q2 (by decide)
theorem gC_le {st : St} : ∀ d i, gC st d i ≤ d := by
  intro d
  induction d with
  | zero => exact fun i => Nat.le_refl _
  | succ d ih =>
    intro i
    have := ih (i + 1)
    simp only [gC]
    split <;> omega
theorem gS_le (V : WW K1 c h1 o m h2 j N aw kb st) : ∀ d i, gS st d i ≤ 99 * d := by
  intro d
  induction d with
  | zero => exact fun i => Nat.le_refl _
  | succ d ih =>
    intro i
    have := ih (i + 1)
    simp only [gS]
    by_cases hg : gN st i = true
    · obtain ⟨a, b, p1, p2, -, -, p5⟩ := gG V hg
      rw [if_pos hg, p5]; omega
    · rw [if_neg hg]; omega
/-- the reference's sign of an ask that was got -/
theorem m_got {k : Nat} (hk : k < 60) (V : WW K1 c h1 o m h2 j N aw kb st) : (h2.1 (m + 40) k = 1 ↔ gN st k = true) ∧ (gN st k = true → h2.1 (m + 41) k = s_B st k 2 ∧ h2.1 (m + 42) k = s_B st k 1) := by
  obtain ⟨⟨vc, vm, I⟩, dk⟩ := id V
  obtain ⟨w1, w2, w3, w4, w5, w6, w7, w8, w9, w10⟩ := id vm
  obtain ⟨u1, u2⟩ := w9 k hk
  by_cases hb : s_B st k 8 = 1
  · obtain ⟨t1, t2, t3, -⟩ := u1 hb
    have e : gN st k = decide (s_B st k 0 = 1) := by simp [gN, hb]
    rw [e, t1]
    refine ⟨by simp, fun hh => ?_⟩
    have := of_decide_eq_true hh
    exact ⟨(t3 this).1, t2⟩
  · have e : gN st k = false := by simp [gN, hb]
    rw [e, u2 hb]
    exact ⟨⟨fun hh => absurd hh (by decide), fun hh => absurd hh (by decide)⟩, fun hh => absurd hh (by decide)⟩
theorem c_got {r q y k : Nat} (kc : KC K1 (x + 210)) (vr : vR r h1 q R) (hq : q ≤ 40) (hy : y ≤ q) (hk : k < 60) (V : WW K1 (x + 210) h1 o m h2 j N aw kb st) (hB : ∀ k', s_B st k' 8 = 1 ↔ (k' < y ∧ isA R k')) : f0_got K1 n x r (nI k) (nI y) h1 = some (if gN st k = true then 1 else 0) := by
  obtain ⟨⟨vc, vm, I⟩, dk⟩ := id V
  obtain ⟨v1, v2, v3, v4, v5, v6, v7, v8, v9, v10⟩ := id vc
  unfold f0_got
  by_cases h0 : k < y
  · rw [if_neg (nI_ge h0 (by omega))]
    by_cases hA : isA R k
    · have hb := (hB k).mpr ⟨h0, hA⟩
      have e : gN st k = decide (s_B st k 0 = 1) := by simp [gN, hb]
      rw [c_asks vr hq (by omega) hA, x_bp, if_neg b_10, x_in (by omega) (by omega), x_gd, x_cl (by omega), (v9 k hk).1, x_ob (kc.2.2.2 k hk), (v9 k hk).2 0 (by omega), e]
      simp only [decide_eq_true_eq]
    · have e : gN st k = false := by simp [gN]; exact fun hh => absurd ((hB k).mp hh).2 hA
      rw [c_asksNo vr hq (by omega) hA, x_bp, if_pos rfl, e, if_neg (by decide)]
  · have e : gN st k = false := by simp [gN]; exact fun hh => absurd ((hB k).mp hh).1 h0
    rw [if_pos (nI_le (by omega) (by omega)), e, if_neg (by decide)]
/-- Euclid, with turns counted and without -/
theorem both_gcd {u p' q' : Int32} : ∀ (t p q z fu fu' : Nat), q ≤ t → z + t ≤ 64 → t < fu → t < fu' → p < 2147483648 → q < 2147483648 → f11_common_L4 K2 n h2 fu (nI p) (nI q) = some (nI (Nat.gcd p q)) ∧ f0_mean_L85 K1 n u p' q' h1 fu' (nI p) (nI q) (nI z) = f0_mean_J118 K1 n u p' q' (nI (Nat.gcd p q)) h1 := by
  intro t
  induction t with
  | zero =>
    intro p q z fu fu' hq hz hf hf' lp lq
    obtain ⟨fu, rfl⟩ : ∃ g, fu = g + 1 := ⟨fu - 1, by omega⟩
    obtain ⟨fu', rfl⟩ : ∃ g, fu' = g + 1 := ⟨fu' - 1, by omega⟩
    obtain rfl : q = 0 := by omega
    have e0 : nI 0 = (0 : Int32) := rfl
    refine ⟨by simp only [f11_common_L4, e0, if_true, Nat.gcd_zero_right], ?_⟩
    simp only [f0_mean_L85, e0, if_true, Nat.gcd_zero_right]
    split <;> rfl
  | succ t ih =>
    intro p q z fu fu' hq hz hf hf' lp lq
    obtain ⟨fu, rfl⟩ : ∃ g, fu = g + 1 := ⟨fu - 1, by omega⟩
    obtain ⟨fu', rfl⟩ : ∃ g, fu' = g + 1 := ⟨fu' - 1, by omega⟩
    have e1 : ¬ (64 : Int32) ≤ nI z := by rw [l_64]; exact nI_ge (by omega) (by omega)
    by_cases h0 : q = 0
    · subst h0
      have e0 : nI 0 = (0 : Int32) := rfl
      exact ⟨by simp only [f11_common_L4, e0, if_true, Nat.gcd_zero_right], by simp only [f0_mean_L85, e0, if_true, if_neg e1, Nat.gcd_zero_right]⟩
    · have n0 : ¬ nI q = (0 : Int32) := by
        have : (nI q = nI 0) = (q = 0) := x_eq lq (by omega)
        intro hh
        exact h0 (this.mp hh)
      have lm : p % q < q := Nat.mod_lt _ (by omega)
      obtain ⟨i1, i2⟩ := ih q (p % q) (z + 1) fu fu' (by omega) (by omega) (by omega) (by omega) lq (by omega)
      have eg : Nat.gcd q (p % q) = Nat.gcd p q := by rw [Nat.gcd_comm p q, Nat.gcd_rec q p, Nat.gcd_comm]
      have er : nI p - nI p / nI q * nI q = nI (p % q) := pk_rem lp (by omega) lq
      rw [eg] at i1 i2
      refine ⟨?_, ?_⟩
      · simp only [f11_common_L4, n0, if_false, not_false_eq_true, decide_true, x_gd, x_lt, er, i1]
      · simp only [f0_mean_L85, if_neg e1, n0, if_false, not_false_eq_true, decide_true, x_gd, x_lt, er, nI_1, i2]
end Mean
