/-! reading: a link told -/
def nLk (N : Nat → Nat) (x y d : Nat) : Nat → Nat := uN (uN (uN (uN N (11 + 3 * N 2) x) (12 + 3 * N 2) y) (13 + 3 * N 2) d) 2 (N 2 + 1)
section Link
variable {K : Ly} {n o m hi : Nat} {h : Hp} {N : Nat → Nat}
theorem nLk_o {x y d q : Nat} (h3 : q ≠ 2) (hq : q < 11 + 3 * N 2 ∨ 14 + 3 * N 2 ≤ q) : nLk N x y d q = N q := by
  unfold nLk; rw [uN_n (by omega), uN_n (by omega), uN_n (by omega), uN_n (by omega)]
theorem nLk_r {x y d : Nat} : nLk N x y d 2 = N 2 + 1 ∧ nLk N x y d (11 + 3 * N 2) = x ∧ nLk N x y d (12 + 3 * N 2) = y ∧ nLk N x y d (13 + 3 * N 2) = d := by
  refine ⟨uN_e, ?_, ?_, ?_⟩
  · unfold nLk; rw [uN_n (by omega), uN_n (by omega), uN_n (by omega), uN_e]
  · unfold nLk; rw [uN_n (by omega), uN_n (by omega), uN_e]
  · unfold nLk; rw [uN_n (by omega), uN_e]
theorem lk0_n {x y d : Nat} (i : Nat) : lk0 (nLk N x y d) i = (lk0 N i).or (if (6 * x + y = i ∨ 6 * y + x = i) then some (N 2) else none) := by
  obtain ⟨r1, r2, r3, r4⟩ := nLk_r (N := N) (x := x) (y := y) (d := d)
  unfold lk0
  rw [r1, fN_succ]
  have e1 : fN (mL (nLk N x y d) i) 0 (N 2) = fN (mL N i) 0 (N 2) := fN_co _ _ (fun l _ h2 => by
    unfold mL
    rw [nLk_o (by omega) (by omega), nLk_o (by omega) (by omega)])
  have e2 : mL (nLk N x y d) i (0 + N 2) = decide (6 * x + y = i ∨ 6 * y + x = i) := by
    rw [Nat.zero_add]
    unfold mL
    rw [r2, r3]
    by_cases c1 : 6 * x + y = i <;> by_cases c2 : 6 * y + x = i <;> simp [c1, c2]
  rw [e1, e2]
  simp
theorem lk0_sy (P : nP N hi) {x y : Nat} (hx : x < 6) (hy : y < 6) : lk0 N (6 * x + y) = lk0 N (6 * y + x) := by
  unfold lk0
  refine fN_co _ _ (fun l _ h2 => ?_)
  obtain ⟨⟨a1, -⟩, ⟨a3, -⟩, -⟩ := P.2.2.2.2.2.2.1 l (by omega)
  unfold mL
  rw [Bool.eq_iff_iff]
  simp only [Bool.or_eq_true, beq_iff_eq]
  omega
theorem c_addLink {x y d : Nat} (P : nP N hi) (hx : x < 6) (hy : y < 6) (V : vN o h N) : ∃ h', f2_addLink K n o (nI x) (nI y) (nI d) h = some h' ∧ h'.2 = h.2 ∧ (∀ a k, ¬ (o ≤ a ∧ a < o + 13) → h'.1 a k = h.1 a k) ∧ vN o h' (match lk0 N (6 * x + y) with | some l => uN N (13 + 3 * l) d | none => if N 2 < 15 then nLk N x y d else N) := by
  have p2 := P.2.2.1
  have p3 := P.2.2.2.1
  obtain ⟨v1, v2, v3, v4, v5, v6⟩ := id V
  have e0 : nI x * (6 : Int32) + nI y = nI (6 * x + y) := by rw [l_6, pk_mul, nI_add, Nat.mul_comm]
  have e0' : nI y * (6 : Int32) + nI x = nI (6 * y + x) := by rw [l_6, pk_mul, nI_add, Nat.mul_comm]
  have i0 : inb (nI (6 * x + y)) 36 = true := x_in (by omega) (by omega)
  have i0' : inb (nI (6 * y + x)) 36 = true := x_in (by omega) (by omega)
  have k0 : (nI (6 * x + y)).toNatClampNeg = 6 * x + y := x_cl (by omega)
  have k0' : (nI (6 * y + x)).toNatClampNeg = 6 * y + x := x_cl (by omega)
  unfold f2_addLink
  rw [e0, i0, x_gd, x_lt, k0, v4 _ (by omega), e0']
  cases hq : lk0 N (6 * x + y) with
  | some l =>
    have hl := (lk0_lt hq).1
    have z : ¬ oI (some l) = (-1 : Int32) := by
      show ¬ nI l = (-1 : Int32)
      rw [x_nm1 (by omega)]; exact fun hh => hh
    refine ⟨sI h (o + 4) l (nI d), ?_, rfl, fun a k ha => rI_n (by omega), ?_⟩
    · rw [if_neg z, f2_addLink_J86, if_neg z, show oI (some l) = nI l from rfl, x_in (by omega) (by omega), x_gd, x_lt, x_cl (by omega)]
    · have l0 : ∀ i, lk0 (uN N (13 + 3 * l) d) i = lk0 N i := lk0_co (uN_n (by omega)) (fun l' _ => ⟨uN_n (by omega), uN_n (by omega)⟩)
      show vN o (sI h (o + 4) l (nI d)) (uN N (13 + 3 * l) d)
      refine ⟨fun j hj => ?_, fun i hi => ?_, fun l' hl' => ?_, fun i hi => ?_, fun j hj => ?_, fun j hj => ?_⟩
      · rw [rI_n (by omega), uN_n (by omega)]; exact v1 j hj
      · rw [rI_n (by omega), uN_n (by omega)]; exact v2 i hi
      · rw [uN_n (by omega)] at hl'
        obtain ⟨u1, u2, u3⟩ := v3 l' hl'
        refine ⟨by rw [rI_n (by omega), uN_n (by omega)]; exact u1, by rw [rI_n (by omega), uN_n (by omega)]; exact u2, ?_⟩
        by_cases hll : l' = l
        · rw [hll, rI_e, uN_e]
        · rw [rI_n (by omega), uN_n (by omega)]; exact u3
      · rw [rI_n (by omega), l0]; exact v4 i hi
      · rw [uN_n (by omega)] at hj
        rw [rI_n (by omega), rI_n (by omega), rI_n (by omega), rI_n (by omega), uN_n (by omega), uN_n (by omega), uN_n (by omega), uN_n (by omega)]; exact v5 j hj
      · rw [uN_n (by omega)] at hj
        rw [rI_n (by omega), rI_n (by omega), rI_n (by omega), uN_n (by omega), uN_n (by omega), uN_n (by omega)]; exact v6 j hj
  | none =>
    rw [if_pos oI_none, v1 2 (by omega)]
    by_cases h15 : N 2 < 15
    · have e1 : ¬ (15 : Int32) ≤ nI (N 2) := by rw [l_15]; exact nI_ge h15 (by omega)
      have i1 : inb (nI (N 2)) 15 = true := x_in h15 (by omega)
      have i2 : (nI (N 2)).toNatClampNeg = N 2 := x_cl (by omega)
      have z : ¬ nI (N 2) = (-1 : Int32) := by rw [x_nm1 (by omega)]; exact fun hh => hh
      obtain ⟨r1, r2, r3, r4⟩ := nLk_r (N := N) (x := x) (y := y) (d := d)
      refine ⟨sI (sI (sI (sI (sI (sI h o 2 (nI (N 2 + 1))) (o + 2) (N 2) (nI x)) (o + 3) (N 2) (nI y)) (o + 5) (6 * x + y) (nI (N 2))) (o + 5) (6 * y + x) (nI (N 2))) (o + 4) (N 2) (nI d), ?_, rfl, fun a k ha => ?_, ?_⟩
      · rw [if_neg e1, x_lt, x_lt, i1, x_gd, x_lt, i2, x_gd, x_lt, x_gd, x_lt, i0', x_gd, x_lt, k0', f2_addLink_J86, if_neg z, i1, x_gd, x_lt, i2, nI_1]
      · rw [rI_n (by omega), rI_n (by omega), rI_n (by omega), rI_n (by omega), rI_n (by omega), rI_n (by omega)]
      · simp only [if_pos h15]
        refine ⟨fun j hj => ?_, fun i hi => ?_, fun l hl => ?_, fun i hi => ?_, fun j hj => ?_, fun j hj => ?_⟩
        · rw [rI_n (by omega), rI_n (by omega), rI_n (by omega), rI_n (by omega), rI_n (by omega)]
          by_cases hj2 : j = 2
          · rw [hj2, rI_e, r1]
          · rw [rI_n (by omega), nLk_o hj2 (by omega)]; exact v1 j hj
        · rw [rI_n (by omega), rI_n (by omega), rI_n (by omega), rI_n (by omega), rI_n (by omega), rI_n (by omega), nLk_o (by omega) (by omega)]; exact v2 i hi
        · rw [r1] at hl
          by_cases hl2 : l = N 2
          · subst hl2
            refine ⟨?_, ?_, ?_⟩
            · rw [rI_n (by omega), rI_n (by omega), rI_n (by omega), rI_n (by omega), rI_e, r2]
            · rw [rI_n (by omega), rI_n (by omega), rI_n (by omega), rI_e, r3]
            · rw [rI_e, r4]
          · obtain ⟨u1, u2, u3⟩ := v3 l (by omega)
            refine ⟨?_, ?_, ?_⟩
            · rw [rI_n (by omega), rI_n (by omega), rI_n (by omega), rI_n (by omega), rI_n (by omega), rI_n (by omega), nLk_o (by omega) (by omega)]; exact u1
            · rw [rI_n (by omega), rI_n (by omega), rI_n (by omega), rI_n (by omega), rI_n (by omega), rI_n (by omega), nLk_o (by omega) (by omega)]; exact u2
            · rw [rI_n (by omega), rI_n (by omega), rI_n (by omega), rI_n (by omega), rI_n (by omega), rI_n (by omega), nLk_o (by omega) (by omega)]; exact u3
        · rw [rI_n (by omega), lk0_n]
          by_cases c2 : i = 6 * y + x
          · rw [c2, rI_e, ← lk0_sy P hx hy, hq, if_pos (Or.inr rfl)]; rfl
          · rw [rI_n (by omega)]
            by_cases c1 : i = 6 * x + y
            · rw [c1, rI_e, hq, if_pos (Or.inl rfl)]; rfl
            · rw [rI_n (by omega), rI_n (by omega), rI_n (by omega), rI_n (by omega), v4 i hi, if_neg (by omega), Option.or_none]
        · rw [nLk_o (by omega) (by omega)] at hj
          obtain ⟨u1, u2, u3, u4⟩ := v5 j hj
          refine ⟨?_, ?_, ?_, ?_⟩
          · rw [rI_n (by omega), rI_n (by omega), rI_n (by omega), rI_n (by omega), rI_n (by omega), rI_n (by omega), nLk_o (by omega) (by omega)]; exact u1
          · rw [rI_n (by omega), rI_n (by omega), rI_n (by omega), rI_n (by omega), rI_n (by omega), rI_n (by omega), nLk_o (by omega) (by omega)]; exact u2
          · rw [rI_n (by omega), rI_n (by omega), rI_n (by omega), rI_n (by omega), rI_n (by omega), rI_n (by omega), nLk_o (by omega) (by omega)]; exact u3
          · rw [rI_n (by omega), rI_n (by omega), rI_n (by omega), rI_n (by omega), rI_n (by omega), rI_n (by omega), nLk_o (by omega) (by omega)]; exact u4
        · rw [nLk_o (by omega) (by omega)] at hj
          obtain ⟨u1, u2, u3⟩ := v6 j hj
          refine ⟨?_, ?_, ?_⟩
          · rw [rI_n (by omega), rI_n (by omega), rI_n (by omega), rI_n (by omega), rI_n (by omega), rI_n (by omega), nLk_o (by omega) (by omega)]; exact u1
          · rw [rI_n (by omega), rI_n (by omega), rI_n (by omega), rI_n (by omega), rI_n (by omega), rI_n (by omega), nLk_o (by omega) (by omega)]; exact u2
          · rw [rI_n (by omega), rI_n (by omega), rI_n (by omega), rI_n (by omega), rI_n (by omega), rI_n (by omega), nLk_o (by omega) (by omega)]; exact u3
    · have e1 : (15 : Int32) ≤ nI (N 2) := by rw [l_15]; exact nI_le (by omega) (by omega)
      refine ⟨h, ?_, rfl, fun _ _ _ => rfl, ?_⟩
      · rw [if_pos e1, f2_addLink_J86, if_pos oI_none]
      · simp only [if_neg h15]; exact V
theorem nLk_P {x y d : Nat} (h15 : N 2 < 15) (P : nP N hi) (hx : x < 6 ∧ x ≤ hi) (hy : y < 6 ∧ y ≤ hi) (hne : y ≠ x) (hd : 1 ≤ d ∧ d ≤ 9) (hq : lk0 N (6 * x + y) = none) : nP (nLk N x y d) hi := by
  obtain ⟨v1, v2, v3, v4, v5, v6, v7, v8, v9, v10⟩ := P
  obtain ⟨r1, r2, r3, r4⟩ := nLk_r (N := N) (x := x) (y := y) (d := d)
  have e : ∀ q, q ≠ 2 → (q < 11 + 3 * N 2 ∨ 14 + 3 * N 2 ≤ q) → nLk N x y d q = N q := fun q h1 h2 => nLk_o h1 h2
  refine ⟨by rw [e 0 (by omega) (by omega)]; exact v1, by rw [e 1 (by omega) (by omega)]; exact v2, by rw [r1]; omega, by rw [e 3 (by omega) (by omega)]; exact v4, by rw [e 4 (by omega) (by omega)]; exact v5, fun i hi => by rw [e _ (by omega) (by omega)]; exact v6 i hi, fun l hl => ?_, fun l hl l' hl' => ?_, fun k hk => ?_, fun k hk => ?_⟩
  · rw [r1] at hl
    by_cases hl2 : l = N 2
    · subst hl2; rw [r2, r3, r4]; exact ⟨hx, hy, fun hh => hne hh.symm, hd⟩
    · rw [e _ (by omega) (by omega), e _ (by omega) (by omega), e _ (by omega) (by omega)]; exact v7 l (by omega)
  · rw [r1] at hl
    by_cases hl2 : l = N 2
    · subst hl2
      have no := fN_none hq l' (by omega) (by omega)
      simp only [mL, Bool.or_eq_false_iff, beq_eq_false_iff_ne] at no
      rw [r2, r3, e _ (by omega) (by omega), e _ (by omega) (by omega)]
      omega
    · rw [e _ (by omega) (by omega), e _ (by omega) (by omega), e _ (by omega) (by omega), e _ (by omega) (by omega)]; exact v8 l (by omega) l' hl'
  · rw [e 3 (by omega) (by omega)] at hk
    rw [e _ (by omega) (by omega), e _ (by omega) (by omega), e _ (by omega) (by omega), e _ (by omega) (by omega)]; exact v9 k hk
  · rw [e 4 (by omega) (by omega)] at hk
    rw [e _ (by omega) (by omega), e _ (by omega) (by omega), e _ (by omega) (by omega)]; exact v10 k hk
theorem nDl_P {l d : Nat} (P : nP N hi) (hl : l < N 2) (hd : 1 ≤ d ∧ d ≤ 9) : nP (uN N (13 + 3 * l) d) hi := by
  obtain ⟨v1, v2, v3, v4, v5, v6, v7, v8, v9, v10⟩ := P
  refine ⟨by rw [uN_n (by omega)]; exact v1, by rw [uN_n (by omega)]; exact v2, by rw [uN_n (by omega)]; exact v3, by rw [uN_n (by omega)]; exact v4, by rw [uN_n (by omega)]; exact v5, fun i hi => by rw [uN_n (by omega)]; exact v6 i hi, fun l' hl' => ?_, fun l' hl' l'' hl'' => ?_, fun k hk => ?_, fun k hk => ?_⟩
  · rw [uN_n (by omega)] at hl'
    obtain ⟨a1, a2, a3, a4⟩ := v7 l' hl'
    rw [uN_n (q := 11 + 3 * l') (by omega), uN_n (q := 12 + 3 * l') (by omega)]
    refine ⟨a1, a2, a3, ?_⟩
    by_cases hll : l' = l
    · rw [hll, uN_e]; exact hd
    · rw [uN_n (by omega)]; exact a4
  · rw [uN_n (by omega)] at hl'
    rw [uN_n (by omega), uN_n (by omega), uN_n (by omega), uN_n (by omega)]; exact v8 l' hl' l'' hl''
  · rw [uN_n (by omega)] at hk
    rw [uN_n (by omega), uN_n (by omega), uN_n (by omega), uN_n (by omega)]; exact v9 k hk
  · rw [uN_n (by omega)] at hk
    rw [uN_n (by omega), uN_n (by omega), uN_n (by omega)]; exact v10 k hk
/-- the reference looks for the pair, and keeps the link -/
def isP (m : Nat) (h : Hp) (j : Nat) : Prop := (h.1 (m + 9) (11 + 3 * j) = h.1 (m + 10) 0 ∧ h.1 (m + 9) (12 + 3 * j) = h.1 (m + 10) 1) ∨ (h.1 (m + 9) (11 + 3 * j) = h.1 (m + 10) 1 ∧ h.1 (m + 9) (12 + 3 * j) = h.1 (m + 10) 0)
theorem m_keepLink {c : Nat} (hn : 5000 ≤ n) (hc : c ≤ 15) (h2 : h.1 (m + 9) 2 = nI c) : ∃ k h', k ≤ c ∧ f11_keepLink K n m h = some h' ∧ ChM [9] m h h' ∧ (∀ j, j < k → ¬ isP m h j) ∧ (k < c → isP m h k ∧ h' = sI h (m + 9) (13 + 3 * k) (h.1 (m + 10) 2)) ∧ (k = c → h'.1 (m + 9) 2 = nI (min 15 (c + 1)) ∧ (c < 15 → ∀ i, i < 3 → h'.1 (m + 9) (11 + 3 * c + i) = h.1 (m + 10) i) ∧ (∀ p, p ≠ 2 → ¬ (c < 15 ∧ 11 + 3 * c ≤ p ∧ p < 11 + 3 * c + 3) → h'.1 (m + 9) p = h.1 (m + 9) p)) := by
  have is : ∀ j, ∃ b : Bool, f11_isOf K n m (h.1 (m + 9) (11 + 3 * j)) (h.1 (m + 9) (12 + 3 * j)) h = some (if b = true then 1 else 0) ∧ (b = true ↔ isP m h j) := fun j => by
    unfold f11_isOf f11_isOf_J20 f11_isOf_J40 isP
    rw [show (0 : Int32).toNatClampNeg = 0 from rfl, show (1 : Int32).toNatClampNeg = 1 from rfl]
    by_cases a1 : h.1 (m + 9) (11 + 3 * j) = h.1 (m + 10) 0
    · rw [if_pos a1]
      by_cases a2 : h.1 (m + 9) (12 + 3 * j) = h.1 (m + 10) 1
      · rw [if_pos a2]; exact ⟨true, rfl, fun _ => Or.inl ⟨a1, a2⟩, fun _ => rfl⟩
      · rw [if_neg a2]
        by_cases a3 : h.1 (m + 9) (11 + 3 * j) = h.1 (m + 10) 1
        · rw [if_pos a3]
          by_cases a4 : h.1 (m + 9) (12 + 3 * j) = h.1 (m + 10) 0
          · rw [if_pos a4]; exact ⟨true, rfl, fun _ => Or.inr ⟨a3, a4⟩, fun _ => rfl⟩
          · rw [if_neg a4]; exact ⟨false, rfl, fun hh => absurd hh (by decide), fun hh => hh.elim (fun z => absurd z.2 a2) (fun z => absurd z.2 a4)⟩
        · rw [if_neg a3]; exact ⟨false, rfl, fun hh => absurd hh (by decide), fun hh => hh.elim (fun z => absurd z.2 a2) (fun z => absurd z.1 a3)⟩
    · rw [if_neg a1]
      by_cases a3 : h.1 (m + 9) (11 + 3 * j) = h.1 (m + 10) 1
      · rw [if_pos a3]
        by_cases a4 : h.1 (m + 9) (12 + 3 * j) = h.1 (m + 10) 0
        · rw [if_pos a4]; exact ⟨true, rfl, fun _ => Or.inr ⟨a3, a4⟩, fun _ => rfl⟩
        · rw [if_neg a4]; exact ⟨false, rfl, fun hh => absurd hh (by decide), fun hh => hh.elim (fun z => absurd z.1 a1) (fun z => absurd z.2 a4)⟩
      · rw [if_neg a3]; exact ⟨false, rfl, fun hh => absurd hh (by decide), fun hh => hh.elim (fun z => absurd z.1 a1) (fun z => absurd z.1 a3)⟩
  have h2' : h.1 (m + 9) (2 : Int32).toNatClampNeg = nI c := h2
  have go : ∀ (d j fu : Nat), j + d = c → d < fu → (∀ i, i < j → ¬ isP m h i) → ∃ k, k ≤ c ∧ f11_keepLink_L2 K n m h fu (nI j) = f11_keepLink_J49 K n m (nI k) h ∧ (∀ i, i < k → ¬ isP m h i) ∧ (k < c → isP m h k) := by
    intro d
    induction d with
    | zero =>
      intro j fu hj hf no
      obtain ⟨fu, rfl⟩ : ∃ g, fu = g + 1 := ⟨fu - 1, by omega⟩
      have e1 : nI c ≤ nI j := nI_le (by omega) (by omega)
      exact ⟨j, by omega, by rw [f11_keepLink_L2, h2', if_pos e1], no, fun hh => by omega⟩
    | succ d ih =>
      intro j fu hj hf no
      obtain ⟨fu, rfl⟩ : ∃ g, fu = g + 1 := ⟨fu - 1, by omega⟩
      have e1 : ¬ nI c ≤ nI j := nI_ge (by omega) (by omega)
      have e3 : (11 : Int32) + (3 : Int32) * nI j = nI (11 + 3 * j) := by rw [l_11, l_3, pk_mul, nI_add]
      have e4 : nI (11 + 3 * j) + (1 : Int32) = nI (12 + 3 * j) := by rw [nI_1, show 11 + 3 * j + 1 = 12 + 3 * j by omega]
      obtain ⟨b, b1, b2⟩ := is j
      have cs : f11_keepLink_L2 K n m h (fu + 1) (nI j) = if (if b = true then (1 : Int32) else 0) = 0 then f11_keepLink_L2 K n m h fu (nI (j + 1)) else f11_keepLink_J49 K n m (nI j) h := by
        rw [f11_keepLink_L2, h2', if_neg e1, e3, e4, x_in (show 11 + 3 * j < 122 by omega) (by omega), x_gd, x_in (show 12 + 3 * j < 122 by omega) (by omega), x_gd, x_cl (by omega), x_cl (by omega), b1, x_bp, x_lt, nI_1]
      rw [cs]
      cases b with
      | true => exact ⟨j, by omega, by rw [if_neg (by decide)], no, fun _ => b2.mp rfl⟩
      | false =>
        rw [if_pos (by decide)]
        exact ih (j + 1) fu (by omega) (by omega) (fun i hi => by
          by_cases hij : i = j
          · rw [hij]; exact fun hh => absurd (b2.mpr hh) (by decide)
          · exact no i (by omega))
  obtain ⟨k, k1, k2, k3, k4⟩ := go c 0 n (by omega) (by omega) (fun i hi => by omega)
  have st : f11_keepLink K n m h = f11_keepLink_J49 K n m (nI k) h := k2
  by_cases hk : k < c
  · have e1 : ¬ nI c ≤ nI k := nI_ge hk (by omega)
    have e3 : (11 : Int32) + (3 : Int32) * nI k + (2 : Int32) = nI (13 + 3 * k) := by rw [l_11, l_3, pk_mul, nI_add, l_2, nI_add, show 11 + 3 * k + 2 = 13 + 3 * k by omega]
    refine ⟨k, sI h (m + 9) (13 + 3 * k) (h.1 (m + 10) 2), k1, ?_, ChM.A (by omega) (by simp) ChM.rf, k3, fun _ => ⟨k4 hk, rfl⟩, fun hh => by omega⟩
    rw [st, f11_keepLink_J49, h2', if_neg e1, e3, x_in (by omega) (by omega), x_gd, x_lt, x_cl (by omega)]; rfl
  · have e1 : nI c ≤ nI k := nI_le (by omega) (by omega)
    obtain ⟨h', g1, g2, g3, g4, g5⟩ := m_keepRow (K2 := K) (n := n) (m := m) (c := 2) (fr := 11) (w := 3) (mo := 15) (q := c) (by omega) (by omega) (by omega) (by omega) hc (by omega) hn h h2
    have g1 : f11_keepRow K n m (2 : Int32) (11 : Int32) (3 : Int32) (15 : Int32) h = some h' := g1
    refine ⟨k, h', k1, ?_, g2, k3, fun hh => absurd hh hk, fun _ => ⟨g3, g4, g5⟩⟩
    rw [st, f11_keepLink_J49, h2', if_pos e1, g1, x_bp]
end Link
