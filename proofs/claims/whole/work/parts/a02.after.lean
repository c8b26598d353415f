/-! after: both sides alike -/
section After
variable {K1 K2 : Ly} {n x m o j kb : Nat} {h1 h2 : Hp} {N : Nat → Nat} {aw : Int32} {st : St} {R : Nat → Int32} {g : Gh} {a a1 a2 a3 : Int32}
theorem c_meanL {r q y : Nat} {u : Int32} (kc : KC K1 (x + 210)) (vr : vR r h1 q R) (hq : q ≤ 40) (hy : y ≤ q) (V : WW K1 (x + 210) h1 o m h2 j N aw kb st) (hB : ∀ k', s_B st k' 8 = 1 ↔ (k' < y ∧ isA R k')) : ∀ (d i S C fu : Nat), i + d = y → d < fu → f0_mean_L9 K1 n x r (nI y) u h1 fu (nI S) (nI C) (nI i) = if nI (C + gC st d i) = (0 : Int32) then some (-1) else f0_mean_L85 K1 n u (nI (S + gS st d i)) (nI (C + gC st d i)) h1 n (nI (C + gC st d i)) (nI (S + gS st d i)) 0 := by
  have v9 := V.1.1.2.2.2.2.2.2.2.2.1
  intro d
  induction d with
  | zero =>
    intro i S C fu hi hf
    obtain ⟨fu, rfl⟩ : ∃ g, fu = g + 1 := ⟨fu - 1, by omega⟩
    have e1 : nI y ≤ nI i := nI_le (by omega) (by omega)
    simp only [f0_mean_L9, if_pos e1, gC, gS, Nat.add_zero]
    rfl
  | succ d ih =>
    intro i S C fu hi hf
    obtain ⟨fu, rfl⟩ : ∃ g, fu = g + 1 := ⟨fu - 1, by omega⟩
    have e1 : ¬ nI y ≤ nI i := nI_ge (by omega) (by omega)
    have e3 : inb (nI i) 60 = true := x_in (by omega) (by omega)
    have e4 : (nI i).toNatClampNeg = i := x_cl (by omega)
    have k60 : i < 60 := by omega
    simp only [f0_mean_L9, if_neg e1, c_got (n := n) kc vr hq hy k60 V hB, x_bp, x_lt, nI_1]
    by_cases hg : gN st i = true
    · obtain ⟨a, b, p1, p2, p3, p4, p5⟩ := gG V hg
      have ed : nI b - nI a = nI (b - a) := pk_sub p1
      simp only [if_pos hg, if_neg b_10, e3, e4, x_gd, (v9 i k60).1, x_ob (kc.2.2.2 i k60), (v9 i k60).2 1 (by omega), (v9 i k60).2 2 (by omega), p3, p4, ed, nI_add, gC, gS, p5]
      rw [ih (i + 1) (S + (b - a)) (C + 1) fu (by omega) (by omega), Nat.add_assoc, Nat.add_assoc]
    · simp only [if_neg hg, if_true, gC, gS, Nat.zero_add]
      rw [ih (i + 1) S C fu (by omega) (by omega)]
theorem m_meanL {u : Int32} (V : WW K1 (x + 210) h1 o m h2 j N aw kb st) : ∀ (d i S C fu : Nat), i + d = 40 → d < fu → f11_mean_L7 K2 n m u h2 fu (nI S) (nI C) (nI i) = if nI (C + gC st d i) = (0 : Int32) then some (-1) else f11_mean_J89 K2 n (nI (S + gS st d i)) (nI (C + gC st d i)) (if u = 0 then nI (S + gS st d i) else nI (C + gC st d i)) h2 := by
  intro d
  induction d with
  | zero =>
    intro i S C fu hi hf
    obtain ⟨fu, rfl⟩ : ∃ g, fu = g + 1 := ⟨fu - 1, by omega⟩
    have e1 : (40 : Int32) ≤ nI i := by rw [show (40 : Int32) = nI 40 from rfl]; exact nI_le (by omega) (by omega)
    simp only [f11_mean_L7, if_pos e1, gC, gS, Nat.add_zero]
    rfl
  | succ d ih =>
    intro i S C fu hi hf
    obtain ⟨fu, rfl⟩ : ∃ g, fu = g + 1 := ⟨fu - 1, by omega⟩
    have e1 : ¬ (40 : Int32) ≤ nI i := by rw [show (40 : Int32) = nI 40 from rfl]; exact nI_ge (by omega) (by omega)
    have e3 : inb (nI i) 64 = true := x_in (by omega) (by omega)
    have e4 : (nI i).toNatClampNeg = i := x_cl (by omega)
    obtain ⟨t1, t2⟩ := m_got (k := i) (by omega) V
    simp only [f11_mean_L7, if_neg e1, f11_mean_J45, f11_mean_J64, e3, e4, x_gd, x_lt, nI_1]
    by_cases hg : gN st i = true
    · obtain ⟨a, b, p1, p2, p3, p4, p5⟩ := gG V hg
      have ed : nI b - nI a = nI (b - a) := pk_sub p1
      have h40 : h2.1 (m + 40) i = 1 := t1.mpr hg
      obtain ⟨t3, t4⟩ := t2 hg
      simp only [if_pos h40, t3, t4, p3, p4, ed, nI_add, nI_1, gC, gS, if_pos hg, p5]
      rw [ih (i + 1) (S + (b - a)) (C + 1) fu (by omega) (by omega), Nat.add_assoc, Nat.add_assoc]
    · have h40 : ¬ h2.1 (m + 40) i = 1 := fun hh => hg (t1.mp hh)
      have z0 : ∀ s : Nat, nI s + (0 : Int32) = nI s := fun s => by rw [l_0, nI_add, Nat.add_zero]
      simp only [if_neg h40, z0, gC, gS, if_neg hg, Nat.zero_add]
      rw [ih (i + 1) S C fu (by omega) (by omega)]
theorem both_mean {r q y : Nat} {b : Bool} (kc : KC K1 (x + 210)) (hn : 5000 ≤ n) (vr : vR r h1 q R) (hq : q ≤ 40) (hy : y ≤ q) (V : WW K1 (x + 210) h1 o m h2 j N aw kb st) (hB : ∀ k', s_B st k' 8 = 1 ↔ (k' < y ∧ isA R k')) : ∃ v, f0_mean K1 n x r (nI y) (if b = true then 1 else 0) h1 = some v ∧ f11_mean K2 n m (if b = true then 0 else 1) h2 = some v := by
  have hz : ∀ k, y ≤ k → gN st k = false := fun k hk => by simp [gN]; exact fun hh => absurd ((hB k).mp hh).1 (by omega)
  have c1 := c_meanL (n := n) (u := if b = true then 1 else 0) kc vr hq hy V hB y 0 0 0 n (by omega) (by omega)
  have m1 := m_meanL (K2 := K2) (n := n) (u := if b = true then 0 else 1) V 40 0 0 0 n (by omega) (by omega)
  have wd := gC_w hz y 0 (40 - y) (by omega)
  rw [show y + (40 - y) = 40 by omega] at wd
  rw [wd.1, wd.2] at m1
  have lC := gC_le (st := st) y 0
  have lS := gS_le V y 0
  rw [Nat.zero_add, Nat.zero_add] at c1 m1
  generalize gC st y 0 = C at c1 m1 lC
  generalize gS st y 0 = S at c1 m1 lS
  have c2 : f0_mean K1 n x r (nI y) (if b = true then 1 else 0) h1 = _ := c1
  have m2 : f11_mean K2 n m (if b = true then 0 else 1) h2 = _ := m1
  rw [c2, m2]
  have eC : (nI C = (0 : Int32)) = (C = 0) := x_eq (ab := 0) (by omega) (by omega)
  simp only [eC]
  by_cases h0 : C = 0
  · exact ⟨-1, by rw [if_pos h0], by rw [if_pos h0]⟩
  · rw [if_neg h0, if_neg h0]
    have gp : 0 < Nat.gcd C S := Nat.gcd_pos_of_pos_left _ (by omega)
    have gl : Nat.gcd C S ≤ C := Nat.gcd_le_left _ (by omega)
    have key : f0_mean_L85 K1 n (if b = true then 1 else 0) (nI S) (nI C) h1 n (nI C) (nI S) 0 = f0_mean_J118 K1 n (if b = true then 1 else 0) (nI S) (nI C) (nI (Nat.gcd C S)) h1 ∧ f11_common K2 n (nI C) (nI S) h2 = some (nI (Nat.gcd C S)) := by
      obtain ⟨n', rfl⟩ : ∃ n', n = n' + 1 := ⟨n - 1, by omega⟩
      have e1 : ¬ (64 : Int32) ≤ 0 := by decide
      unfold f11_common
      by_cases hs : S = 0
      · subst hs
        have e0 : nI 0 = (0 : Int32) := rfl
        exact ⟨by simp only [f0_mean_L85, e0, if_true, if_neg e1, Nat.gcd_zero_right], by simp only [f11_common_L4, e0, if_true, Nat.gcd_zero_right]⟩
      · have n0 : ¬ nI S = (0 : Int32) := by
          have : (nI S = nI 0) = (S = 0) := x_eq (by omega) (by omega)
          intro hh
          exact hs (this.mp hh)
        have lm : C % S ≤ C := Nat.mod_le _ _
        have er : nI C - nI C / nI S * nI S = nI (C % S) := pk_rem (by omega) (by omega) (by omega)
        have eg : Nat.gcd S (C % S) = Nat.gcd C S := by rw [Nat.gcd_comm C S, Nat.gcd_rec S C, Nat.gcd_comm]
        obtain ⟨i1, i2⟩ := both_gcd (K1 := K1) (K2 := K2) (n := n' + 1) (h1 := h1) (h2 := h2) (u := if b = true then 1 else 0) (p' := nI S) (q' := nI C) 40 S (C % S) 1 n' n' (by omega) (by omega) (by omega) (by omega) (by omega) (by omega)
        rw [eg] at i1 i2
        have z1 : (0 : Int32) + 1 = nI 1 := rfl
        exact ⟨by simp only [f0_mean_L85, if_neg e1, n0, if_false, not_false_eq_true, decide_true, x_gd, x_lt, er, z1, i2], by simp only [f11_common_L4, n0, if_false, not_false_eq_true, decide_true, x_gd, x_lt, er, i1]⟩
    generalize Nat.gcd C S = G at key gp gl
    have nG : ¬ nI G = (0 : Int32) := by
      have : (nI G = nI 0) = (G = 0) := x_eq (by omega) (by omega)
      intro hh
      have := this.mp hh
      omega
    have jm : jmax (nI G) (1 : Int32) = nI G := by
      unfold jmax
      rw [if_neg (show ¬ nI G < (1 : Int32) from nI_nlt (b := 1) gp (by omega))]
    rw [key.1]
    unfold f0_mean_J118 f0_mean_J129 f11_mean_J89
    rw [jm, key.2, x_bp]
    simp only [nG, not_false_eq_true, decide_true, x_gd]
    cases b
    · exact ⟨_, rfl, rfl⟩
    · exact ⟨_, rfl, rfl⟩
end After
