section FarM
variable {K2 : Ly} {n m j : Nat} {h2 : Hp} {N : Nat → Nat} {ya yb : Int32}
def fwv (m : Nat) (h : Hp) (A : Nat → Nat) : Prop := ∀ i, i < 36 → h.1 (m + 50) i = nI (A i)
theorem m_far1 : ∀ (d i fu : Nat) (h : Hp), i + d = 36 → d < fu → ∃ h', f11_far_L34 K2 n m ya yb fu (nI i) h = f11_far_L77 K2 n m ya yb n (nI 0) h' ∧ ChM [50] m h h' ∧ (∀ k, k < i → h'.1 (m + 50) k = h.1 (m + 50) k) ∧ ∀ k, i ≤ k → k < 36 → h'.1 (m + 50) k = nI (if k / 6 = k % 6 then 0 else 1000000) := by
  intro d
  induction d with
  | zero =>
    intro i fu h hi hf
    obtain ⟨fu, rfl⟩ : ∃ g, fu = g + 1 := ⟨fu - 1, by omega⟩
    have e1 : (36 : Int32) ≤ nI i := by rw [l_36]; exact nI_le (by omega) (by omega)
    exact ⟨h, by rw [f11_far_L34, if_pos e1]; rfl, ChM.rf, fun _ _ => rfl, fun k h1 h2 => by omega⟩
  | succ d ih =>
    intro i fu h hi hf
    obtain ⟨fu, rfl⟩ : ∃ g, fu = g + 1 := ⟨fu - 1, by omega⟩
    have e1 : ¬ (36 : Int32) ≤ nI i := by rw [l_36]; exact nI_ge (by omega) (by omega)
    have r1 : nI i - nI i / (6 : Int32) * (6 : Int32) = nI (i % 6) := by rw [l_6]; exact pk_rem (by omega) (by omega) (by omega)
    have r2 : nI i / (6 : Int32) = nI (i / 6) := by rw [l_6]; exact pk_div (by omega) (by omega) (by omega)
    obtain ⟨h', q1, q2, q3, q4⟩ := ih (i + 1) fu (sI h (m + 50) i (nI (if i / 6 = i % 6 then 0 else 1000000))) (by omega) (by omega)
    refine ⟨h', ?_, (ChM.A (by omega) (by simp) ChM.rf).tr q2, fun k hk => ?_, fun k k1 k2 => ?_⟩
    · rw [f11_far_L34, if_neg e1, f11_far_J67, x_in (by omega) (by omega), x_gd, x_lt, x_lt, nI_1, x_cl (by omega), r1, r2, ← q1]
      simp only [x_eq (show i / 6 < 2147483648 by omega) (show i % 6 < 2147483648 by omega)]
      by_cases hc : i / 6 = i % 6
      · rw [if_pos hc, if_pos hc]; rfl
      · rw [if_neg hc, if_neg hc]; rfl
    · rw [q3 k (by omega), rI_n (by omega)]
    · by_cases hki : k = i
      · subst hki; rw [q3 k (by omega), rI_e]
      · exact q4 k (by omega) k2
/-- what stands in the row, k links in -/
def lw (N : Nat → Nat) (k i : Nat) : Nat := match lkd N (-1) i k with
  | none => if i / 6 = i % 6 then 0 else 1000000
  | some l => N (13 + 3 * l)
theorem lw_st {N : Nat → Nat} (ok : nOk N) {i k : Nat} (hk : k < N 2) : lw N (k + 1) i = if mL N i k = true then N (13 + 3 * k) else lw N k i := by
  have b2 := ok.2.2.1
  unfold lw
  rw [lkd_st ok hk, if_neg (show ¬ nI k = (-1 : Int32) by rw [x_nm1 (by omega)]; exact fun hh => hh)]
  by_cases hc : mL N i k = true
  · rw [if_pos hc, if_pos hc]
  · rw [if_neg hc, if_neg hc]
theorem m_far2 (ok : nOk N) : ∀ (d k fu : Nat) (h : Hp), k + d = N 2 → d < fu → vMN m h N j → fwv m h (lw N k) → ∃ h', f11_far_L77 K2 n m ya yb fu (nI k) h = f11_far_L155 K2 n m ya yb n (nI 0) h' ∧ ChM [50] m h h' ∧ fwv m h' (lw N (N 2)) := by
  have hN : N 2 ≤ 15 := ok.2.2.1
  have b0 := ok.1
  intro d
  induction d with
  | zero =>
    intro k fu h hk hf v hi
    obtain ⟨fu, rfl⟩ : ∃ g, fu = g + 1 := ⟨fu - 1, by omega⟩
    have e1 : nI (N 2) ≤ nI k := nI_le (by omega) (by omega)
    refine ⟨h, ?_, ChM.rf, by rw [show N 2 = k by omega]; exact hi⟩
    rw [f11_far_L77, mlinks v, x_bp, if_pos e1]; rfl
  | succ d ih =>
    intro k fu h hk hf v hi
    obtain ⟨fu, rfl⟩ : ∃ g, fu = g + 1 := ⟨fu - 1, by omega⟩
    have e1 : ¬ nI (N 2) ≤ nI k := nI_ge (by omega) (by omega)
    obtain ⟨c1, c2, c3, -⟩ := ok.2.2.2.2.2.2.1 k (by omega)
    have keep : ∀ h' : Hp, ChM [50] m h h' → vMN m h' N j := fun h' q => ⟨v.1, (q.f (by simp)).trans v.2.1, (q.f (by simp)).trans v.2.2.1, (q.f (by simp)).trans v.2.2.2.1, fun i hi => (q.a (by omega) (by simp) _).trans (v.2.2.2.2 i hi)⟩
    have r0 : ∀ (h : Hp) (v : vMN m h N j), f11_linkAt K2 n m (nI k) (0 : Int32) h = some (nI (N (11 + 3 * k))) := fun h v => mlinkAt v (l := k) (w := 0) (by omega)
    have r1 : ∀ (h : Hp) (v : vMN m h N j), f11_linkAt K2 n m (nI k) (1 : Int32) h = some (nI (N (12 + 3 * k))) := fun h v => by
      have := mlinkAt (K := K2) (n := n) v (l := k) (w := 1) (by omega)
      rw [show 11 + 3 * k + 1 = 12 + 3 * k by omega] at this
      exact this
    have r2 : ∀ (h : Hp) (v : vMN m h N j), f11_linkAt K2 n m (nI k) (2 : Int32) h = some (nI (N (13 + 3 * k))) := fun h v => by
      have := mlinkAt (K := K2) (n := n) v (l := k) (w := 2) (by omega)
      rw [show 11 + 3 * k + 2 = 13 + 3 * k by omega] at this
      exact this
    have e3 : (6 : Int32) * nI (N (11 + 3 * k)) + nI (N (12 + 3 * k)) = nI (6 * N (11 + 3 * k) + N (12 + 3 * k)) := by rw [l_6, pk_mul, nI_add]
    have e4 : (6 : Int32) * nI (N (12 + 3 * k)) + nI (N (11 + 3 * k)) = nI (6 * N (12 + 3 * k) + N (11 + 3 * k)) := by rw [l_6, pk_mul, nI_add]
    have ch1 : ChM [50] m h (sI h (m + 50) (6 * N (11 + 3 * k) + N (12 + 3 * k)) (nI (N (13 + 3 * k)))) := ChM.A (by omega) (by simp) ChM.rf
    have ch2 : ChM [50] m h (sI (sI h (m + 50) (6 * N (11 + 3 * k) + N (12 + 3 * k)) (nI (N (13 + 3 * k)))) (m + 50) (6 * N (12 + 3 * k) + N (11 + 3 * k)) (nI (N (13 + 3 * k)))) := ChM.A (by omega) (by simp) ch1
    have v1 := keep _ ch1
    obtain ⟨h', q1, q2, q4⟩ := ih (k + 1) fu _ (by omega) (by omega) (keep _ ch2) (fun i h1 => by
      rw [lw_st ok (by omega)]
      by_cases hc : mL N i k = true
      · rw [if_pos hc]
        simp only [mL, Bool.or_eq_true, beq_iff_eq] at hc
        by_cases h5 : i = 6 * N (12 + 3 * k) + N (11 + 3 * k)
        · rw [h5, rI_e]
        · rw [rI_n (by omega), show i = 6 * N (11 + 3 * k) + N (12 + 3 * k) by omega, rI_e]
      · rw [if_neg hc]
        simp only [mL, Bool.or_eq_true, beq_iff_eq, not_or] at hc
        rw [rI_n (by omega), rI_n (by omega), hi i h1])
    refine ⟨h', ?_, ch2.tr q2, q4⟩
    rw [f11_far_L77, mlinks v, x_bp, if_neg e1, r0 h v, x_bp, r1 h v, x_bp, r2 h v, x_bp, e3, x_in (show 6 * N (11 + 3 * k) + N (12 + 3 * k) < 36 by omega) (by omega), x_gd, x_lt, x_cl (show 6 * N (11 + 3 * k) + N (12 + 3 * k) < 2147483648 by omega), r1 _ v1, x_bp, r0 _ v1, x_bp, r2 _ v1, x_bp, e4, x_in (show 6 * N (12 + 3 * k) + N (11 + 3 * k) < 36 by omega) (by omega), x_gd, x_lt, x_cl (show 6 * N (12 + 3 * k) + N (11 + 3 * k) < 2147483648 by omega), x_lt, nI_1]
    exact q1
theorem lw_I (ok : nOk N) : fwI N (lw N (N 2)) 0 := by
  have b0 := ok.1
  have b2 := ok.2.2.1
  have un : ∀ i l, lkd N (-1) i (N 2) = some l → l < N 2 ∧ mL N i l = true := fun i l h => by
    unfold lkd at h
    cases hq : fN (mL N i) 0 (N 2) with
    | none => rw [hq] at h; cases h
    | some l' =>
      obtain ⟨g1, g2, g3, -⟩ := fN_some hq
      rw [hq] at h
      simp only [x_nm1 (show l' < 2147483648 by omega), if_false, Option.some.injEq] at h
      subst h
      exact ⟨by omega, g3⟩
  have non : ∀ i, lkd N (-1) i (N 2) = none → ∀ l, l < N 2 → mL N i l = false := fun i h l hl => by
    unfold lkd at h
    cases hq : fN (mL N i) 0 (N 2) with
    | none => exact fN_none hq l (by omega) (by omega)
    | some l' =>
      obtain ⟨g1, g2, g3, -⟩ := fN_some hq
      rw [hq] at h
      simp only [x_nm1 (show l' < 2147483648 by omega), if_false] at h
      cases h
  refine ⟨fun i hi => ?_, fun i hi => ?_, fun q hq => by omega, fun i hi j hj hne hlt => ?_, fun u v w he => ?_⟩
  · unfold lw
    cases hq : lkd N (-1) (6 * i + i) (N 2) with
    | none => simp only []; rw [if_pos (by omega)]
    | some l =>
      obtain ⟨g1, g2⟩ := un _ _ hq
      obtain ⟨c1, c2, c3, -⟩ := ok.2.2.2.2.2.2.1 l g1
      simp only [mL, Bool.or_eq_true, beq_iff_eq] at g2
      omega
  · unfold lw
    cases hq : lkd N (-1) i (N 2) with
    | none => simp only []; split <;> omega
    | some l =>
      obtain ⟨g1, g2⟩ := un _ _ hq
      obtain ⟨c1, c2, c3, c4, c5⟩ := ok.2.2.2.2.2.2.1 l g1
      simp only []; omega
  · unfold lw at hlt ⊢
    cases hq : lkd N (-1) (6 * i + j) (N 2) with
    | none =>
      rw [hq] at hlt
      simp only [] at hlt
      rw [if_neg (by omega)] at hlt
      omega
    | some l =>
      obtain ⟨g1, g2⟩ := un _ _ hq
      obtain ⟨c1, c2, c3, c4, c5⟩ := ok.2.2.2.2.2.2.1 l g1
      simp only [mL, Bool.or_eq_true, beq_iff_eq] at g2
      refine ⟨i, N (13 + 3 * l), ⟨l, g1, rfl, by omega⟩, ?_⟩
      cases hq2 : lkd N (-1) (6 * i + i) (N 2) with
      | none => simp only []; rw [if_pos (by omega)]; omega
      | some l2 =>
        obtain ⟨g3, g4⟩ := un _ _ hq2
        obtain ⟨d1, d2, d3, -⟩ := ok.2.2.2.2.2.2.1 l2 g3
        simp only [mL, Bool.or_eq_true, beq_iff_eq] at g4
        omega
  · obtain ⟨e1, e2, -, -, -⟩ := eg_b ok he
    obtain ⟨l, hl, rfl, hh⟩ := he
    have ml : mL N (6 * u + v) l = true := by
      simp only [mL, Bool.or_eq_true, beq_iff_eq]
      rcases hh with ⟨rfl, rfl⟩ | ⟨rfl, rfl⟩
      · exact Or.inl rfl
      · exact Or.inr rfl
    unfold lw
    cases hq : lkd N (-1) (6 * u + v) (N 2) with
    | none => have := non _ hq l hl; rw [ml] at this; cases this
    | some l' =>
      obtain ⟨g1, g2⟩ := un _ _ hq
      have : l' = l := by
        rcases Nat.lt_trichotomy l' l with hlt | heq | hgt
        · exact (mL_u ok hl hlt ml g2).elim
        · exact heq
        · exact (mL_u ok g1 hgt g2 ml).elim
      subst this
      exact Nat.le_refl _
theorem m_far3 {A : Nat → Nat} {k : Nat} (hk : k < 6) (hz : A (6 * k + k) = 0) (hA : ∀ i, i < 36 → A i ≤ 1000000) (r : Int32 → Hp → Option (Int32 × Hp)) : ∀ (d t fu : Nat) (h : Hp), t + d = 36 → d < fu → (∀ i, i < 36 → h.1 (m + 50) i = nI (if i < t then fwS A k i else A i)) → ∃ h', f11_far_L165 K2 n m ya yb (nI k) r fu (nI t) h = r (nI (k + 1)) h' ∧ ChM [50] m h h' ∧ fwv m h' (fwS A k) := by
  intro d
  induction d with
  | zero =>
    intro t fu h ht hf hv
    obtain ⟨fu, rfl⟩ : ∃ g, fu = g + 1 := ⟨fu - 1, by omega⟩
    have e1 : (36 : Int32) ≤ nI t := by rw [l_36]; exact nI_le (by omega) (by omega)
    refine ⟨h, by rw [f11_far_L165, if_pos e1, x_lt, nI_1], ChM.rf, fun i hi => ?_⟩
    rw [hv i hi, if_pos (by omega)]
  | succ d ih =>
    intro t fu h ht hf hv
    obtain ⟨fu, rfl⟩ : ∃ g, fu = g + 1 := ⟨fu - 1, by omega⟩
    have e1 : ¬ (36 : Int32) ≤ nI t := by rw [l_36]; exact nI_ge (by omega) (by omega)
    have r1 : nI t - nI t / (6 : Int32) * (6 : Int32) = nI (t % 6) := by rw [l_6]; exact pk_rem (by omega) (by omega) (by omega)
    have r2 : nI t / (6 : Int32) = nI (t / 6) := by rw [l_6]; exact pk_div (by omega) (by omega) (by omega)
    have r3 : (6 : Int32) * nI (t / 6) + nI k = nI (6 * (t / 6) + k) := by rw [l_6, pk_mul, nI_add]
    have r4 : (6 : Int32) * nI k + nI (t % 6) = nI (6 * k + t % 6) := by rw [l_6, pk_mul, nI_add]
    have a1 : h.1 (m + 50) (6 * (t / 6) + k) = nI (A (6 * (t / 6) + k)) := by
      rw [hv _ (by omega)]
      by_cases hc : 6 * (t / 6) + k < t
      · rw [if_pos hc, fwS_at hk, hz]; congr 1; omega
      · rw [if_neg hc]
    have a2 : h.1 (m + 50) (6 * k + t % 6) = nI (A (6 * k + t % 6)) := by
      rw [hv _ (by omega)]
      by_cases hc : 6 * k + t % 6 < t
      · rw [if_pos hc, fwS_at (by omega), hz]; congr 1; omega
      · rw [if_neg hc]
    have a3 : h.1 (m + 50) t = nI (A t) := by rw [hv _ (by omega), if_neg (by omega)]
    have b1 := hA (6 * (t / 6) + k) (by omega)
    have b2 := hA (6 * k + t % 6) (by omega)
    have b3 := hA t (by omega)
    have a4 : f11_lesser (nI (A t)) (nI (A (6 * (t / 6) + k)) + nI (A (6 * k + t % 6))) = nI (fwS A k t) := by
      unfold f11_lesser fwS
      rw [nI_add]
      simp only [x_le (show A (6 * (t / 6) + k) + A (6 * k + t % 6) < 2147483648 by omega) (show A t < 2147483648 by omega)]
      by_cases hc : A (6 * (t / 6) + k) + A (6 * k + t % 6) ≤ A t
      · rw [if_pos hc]; congr 1; omega
      · rw [if_neg hc]; congr 1; omega
    obtain ⟨h', q1, q2, q3⟩ := ih (t + 1) fu (sI h (m + 50) t (nI (fwS A k t))) (by omega) (by omega) (fun i hi => by
      by_cases hit : i = t
      · rw [hit, rI_e, if_pos (by omega)]
      · rw [rI_n (by omega), hv i hi]
        by_cases hc : i < t
        · rw [if_pos hc, if_pos (by omega)]
        · rw [if_neg hc, if_neg (by omega)])
    refine ⟨h', ?_, (ChM.A (by omega) (by simp) ChM.rf).tr q2, q3⟩
    rw [f11_far_L165, if_neg e1, r1, r2, r3, r4, x_in (show 6 * (t / 6) + k < 36 by omega) (by omega), x_gd, x_in (show 6 * k + t % 6 < 36 by omega) (by omega), x_gd, x_cl (show 6 * (t / 6) + k < 2147483648 by omega), x_cl (show 6 * k + t % 6 < 2147483648 by omega), a1, a2, x_lt, x_in (show t < 36 by omega) (by omega), x_gd, x_gd, x_cl (show t < 2147483648 by omega), a3, a4, x_lt, x_lt, nI_1]
    exact q1
theorem m_far4 (ok : nOk N) {a b : Nat} (ha : a < 6) (hb : b < 6) : ∀ (d k fu : Nat) (h : Hp) (A : Nat → Nat), k + d = 6 → d < fu → 40 ≤ n → fwI N A k → fwv m h A → ∃ h' A', f11_far_L155 K2 n m (nI a) (nI b) fu (nI k) h = some ((if 1000000 ≤ A' (6 * a + b) then (-1 : Int32) else nI (A' (6 * a + b))), h') ∧ ChM [50] m h h' ∧ fwI N A' 6 := by
  intro d
  induction d with
  | zero =>
    intro k fu h A hk hf hn hI hv
    obtain ⟨fu, rfl⟩ : ∃ g, fu = g + 1 := ⟨fu - 1, by omega⟩
    have e1 : (6 : Int32) ≤ nI k := by rw [l_6]; exact nI_le (by omega) (by omega)
    have r3 : (6 : Int32) * nI a + nI b = nI (6 * a + b) := by rw [l_6, pk_mul, nI_add]
    have b1 := hI.2.1 (6 * a + b) (by omega)
    refine ⟨h, A, ?_, ChM.rf, by rw [show 6 = k by omega]; exact hI⟩
    rw [f11_far_L155, if_pos e1, r3, x_in (by omega) (by omega), x_gd, x_lt, x_cl (by omega), hv _ (by omega), show (1000000 : Int32) = nI 1000000 from rfl]
    simp only [x_le (show 1000000 < 2147483648 by omega) (show A (6 * a + b) < 2147483648 by omega)]
  | succ d ih =>
    intro k fu h A hk hf hn hI hv
    obtain ⟨fu, rfl⟩ : ∃ g, fu = g + 1 := ⟨fu - 1, by omega⟩
    have e1 : ¬ (6 : Int32) ≤ nI k := by rw [l_6]; exact nI_ge (by omega) (by omega)
    obtain ⟨h', q1, q2, q3⟩ := m_far3 (K2 := K2) (n := n) (ya := nI a) (yb := nI b) (show k < 6 by omega) (hI.1 k (by omega)) hI.2.1 (f11_far_L155 K2 n m (nI a) (nI b) fu) 36 0 n h (by omega) (by omega) (fun i hi => by rw [hv i hi, if_neg (by omega)])
    obtain ⟨h'', A', p1, p2, p3⟩ := ih (k + 1) fu h' (fwS A k) (by omega) (by omega) hn (fwI_st ok (by omega) hI) q3
    refine ⟨h'', A', ?_, q2.tr p2, p3⟩
    rw [f11_far_L155, if_neg e1]
    exact q1.trans p1
theorem m_far (ok : nOk N) (hn : 5000 ≤ n) (v : vMN m h2 N j) {a b : Nat} (ha : a < 6) (hb : b < 6) : ∃ h' D, f11_far_L34 K2 n m (nI a) (nI b) n 0 h2 = some ((if 1000000 ≤ D b then (-1 : Int32) else nI (D b)), h') ∧ ChM [50] m h2 h' ∧ dOkD N D a := by
  have b2 := ok.2.2.1
  obtain ⟨k1, q1, q2, q3, q4⟩ := m_far1 (K2 := K2) (n := n) (m := m) (ya := nI a) (yb := nI b) 36 0 n h2 (by omega) (by omega)
  have v1 : vMN m k1 N j := ⟨v.1, (q2.f (by simp)).trans v.2.1, (q2.f (by simp)).trans v.2.2.1, (q2.f (by simp)).trans v.2.2.2.1, fun i hi => (q2.a (by omega) (by simp) _).trans (v.2.2.2.2 i hi)⟩
  obtain ⟨k2, p1, p2, p3⟩ := m_far2 (K2 := K2) (n := n) (ya := nI a) (yb := nI b) ok (N 2) 0 n k1 (by omega) (by omega) v1 (fun i hi => by rw [q4 i (by omega) hi]; rfl)
  obtain ⟨k3, A, s1, s2, s3⟩ := m_far4 (K2 := K2) (n := n) (m := m) ok ha hb 6 0 n k2 _ (by omega) (by omega) (by omega) (lw_I ok) p3
  exact ⟨k3, fun v => A (6 * a + v), q1.trans (p1.trans s1), q2.tr (p2.tr s2), fwI_D ok ha s3⟩
end FarM
