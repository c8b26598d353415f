/-! beginnings, in the class; the rows of a node's table, on both sides -/
section Beg
variable {K : Ly} {n : Nat} {h : Hp}
theorem cbg_st {p w i fu : Nat} (hw : w < 2147483648) (h0 : w ≠ 0) (hp : p < 2147483648) (ne : ¬ w = p) (hi : i < 4) : f0_begins_L4 K n (nI p) h (fu + 1) (nI w) (nI i) = f0_begins_L4 K n (nI p) h fu (nI (w / 27)) (nI (i + 1)) := by
  have e1 : ¬ (4 : Int32) ≤ nI i := by rw [show (4 : Int32) = nI 4 from rfl]; exact nI_ge hi (by omega)
  have e2 : ¬ nI w ≤ 0 := nI_nle (by omega) (by omega)
  have e3 : ¬ nI w = nI p := by rw [x_eq hw hp]; exact ne
  rw [f0_begins_L4, if_neg e1, if_neg e2, if_neg e3, x_lt, x_lt, nI_1, x_d27 hw]
theorem cbg_eq {w i fu : Nat} (hw : w < 2147483648) (h0 : w ≠ 0) (hi : i < 4) : f0_begins_L4 K n (nI w) h (fu + 1) (nI w) (nI i) = some 1 := by
  have e1 : ¬ (4 : Int32) ≤ nI i := by rw [show (4 : Int32) = nI 4 from rfl]; exact nI_ge hi (by omega)
  have e2 : ¬ nI w ≤ 0 := nI_nle (by omega) (by omega)
  rw [f0_begins_L4, if_neg e1, if_neg e2, if_pos rfl]
theorem cbg_0 {p i fu : Nat} : f0_begins_L4 K n (nI p) h (fu + 1) (nI 0) (nI i) = some 0 := by
  rw [f0_begins_L4, if_pos (show nI 0 ≤ (0 : Int32) by decide), ite_self]
theorem cbeg {p w : Nat} (hp0 : 0 < p) (hp : p < 531441) (hw : w < 531441) (hn : 6 ≤ n) : f0_begins K n (nI w) (nI p) h = some (if beg p w = true then 1 else 0) := by
  obtain ⟨f, hf⟩ : ∃ g, n = g + 5 := ⟨n - 5, by omega⟩
  have bt := beg_t (p := p) (nm := w)
  have yes : beg p w = true → some (if beg p w = true then (1 : Int32) else 0) = some 1 := fun hh => by rw [if_pos hh]
  have no : ¬ beg p w = true → some (if beg p w = true then (1 : Int32) else 0) = some 0 := fun hh => by rw [if_neg hh]
  unfold f0_begins
  show f0_begins_L4 K n (nI p) h n (nI w) (nI 0) = _
  generalize hg : n = fu
  rw [hf] at hg
  subst hg
  by_cases h0 : w = 0
  · subst h0; rw [cbg_0, no (by rw [bt]; omega)]
  by_cases c0 : w = p
  · subst c0; rw [cbg_eq (by omega) h0 (by omega), yes (by rw [bt]; omega)]
  rw [cbg_st (by omega) h0 (by omega) c0 (by omega)]
  by_cases h1 : w / 27 = 0
  · rw [h1, cbg_0, no (by rw [bt]; omega)]
  by_cases c1 : w / 27 = p
  · rw [yes (by rw [bt]; omega), c1, cbg_eq (by omega) (by omega) (by omega)]
  rw [cbg_st (by omega) h1 (by omega) c1 (by omega)]
  by_cases h2 : w / 27 / 27 = 0
  · rw [h2, cbg_0, no (by rw [bt]; omega)]
  by_cases c2 : w / 27 / 27 = p
  · rw [yes (by rw [bt]; omega), c2, cbg_eq (by omega) (by omega) (by omega)]
  rw [cbg_st (by omega) h2 (by omega) c2 (by omega)]
  by_cases h3 : w / 27 / 27 / 27 = 0
  · rw [h3, cbg_0, no (by rw [bt]; omega)]
  by_cases c3 : w / 27 / 27 / 27 = p
  · rw [yes (by rw [bt]; omega), c3, cbg_eq (by omega) (by omega) (by omega)]
  rw [cbg_st (by omega) h3 (by omega) c3 (by omega), show w / 27 / 27 / 27 / 27 = 0 by omega, cbg_0, no (by rw [bt]; omega)]
end Beg
def rbP (N : Nat → Nat) (k r j : Nat) : Bool := (N (56 + 4 * j) == N (56 + 4 * k)) && beg r (N (57 + 4 * j))
section Rows
variable {K1 K2 : Ly} {n o m j : Nat} {h1 h2 : Hp} {N : Nat → Nat}
theorem c_rowBefore (ok : nOk N) (v : vN o h1 N) {k r : Nat} (hk : k < N 3) (hr0 : 0 < r) (hr : r < 531441) (hn : 20 ≤ n) : f2_rowBefore K1 n o (nI k) (nI r) h1 = some (if (fN (rbP N k r) 0 k).isSome = true then 1 else 0) := by
  have b3 := ok.2.2.2.1
  have b0 := ok.1
  have go : ∀ (d i fu : Nat), i + d = k → d < fu → f2_rowBefore_L2 K1 n o (nI k) (nI r) h1 fu (nI i) = some (if (fN (rbP N k r) i d).isSome = true then 1 else 0) := by
    intro d
    induction d with
    | zero =>
      intro i fu hi hf
      obtain ⟨fu, rfl⟩ : ∃ g, fu = g + 1 := ⟨fu - 1, by omega⟩
      have e1 : nI k ≤ nI i := nI_le (by omega) (by omega)
      rw [f2_rowBefore_L2, if_pos e1]; rfl
    | succ d ih =>
      intro i fu hi hf
      obtain ⟨fu, rfl⟩ : ∃ g, fu = g + 1 := ⟨fu - 1, by omega⟩
      have e1 : ¬ nI k ≤ nI i := nI_ge (by omega) (by omega)
      obtain ⟨e2, e3, -, -⟩ := v.2.2.2.2.1 i (by omega)
      obtain ⟨e4, -, -, -⟩ := v.2.2.2.2.1 k (by omega)
      obtain ⟨q1, ⟨q2, q3⟩, -, -⟩ := ok.2.2.2.2.2.2.2.2.1 i (by omega)
      obtain ⟨q4, -, -, -⟩ := ok.2.2.2.2.2.2.2.2.1 k (by omega)
      have e5 := ih (i + 1) fu (by omega) (by omega)
      rw [f2_rowBefore_L2, if_neg e1, x_in (show i < 12 by omega) (by omega), x_gd, x_in (show k < 12 by omega) (by omega), x_gd, x_gd, x_cl (by omega), x_cl (by omega), e2, e3, e4, cbeg hr0 hr q3 (by omega), x_bp, x_lt, nI_1, e5, fN]
      simp only [x_eq (show N (56 + 4 * i) < 2147483648 by omega) (show N (56 + 4 * k) < 2147483648 by omega)]
      by_cases c1 : N (56 + 4 * i) = N (56 + 4 * k)
      · rw [if_pos c1]
        by_cases c2 : beg r (N (57 + 4 * i)) = true
        · rw [if_pos c2, if_neg b_10, if_pos (show rbP N k r i = true by simp [rbP, c1, c2])]; rfl
        · rw [if_neg c2, if_pos rfl, if_neg (show ¬ rbP N k r i = true by simp [rbP, c1, c2])]
      · rw [if_neg c1, if_neg (show ¬ rbP N k r i = true by simp [rbP, c1])]
  exact go k 0 n (by omega) (by omega)
/-- the reference looks whether it has a row already -/
theorem m_had {s c : Nat} {y kx : Int32} {r4 r34 : Int32 → Int32 → Hp → Option (Int32 × Hp)} (hs : s < 48) (hc : c < 531441) : ∀ (d i fu : Nat) (b : Bool), i + d = s → d < fu → f11_rowsAt_L45 K2 n m y (nI s) kx (nI c) h2 r4 r34 fu (if b = true then 1 else 0) (nI i) = if (b || (fN (fun i => decide (h2.1 (m + 48) i = nI c)) i d).isSome) = true then r34 (nI s) (nI (c / 27)) (sI h2 (m + 48) s (h2.1 (m + 48) s)) else r34 (nI (s + 1)) (nI (c / 27)) (sI h2 (m + 48) s (nI c)) := by
  intro d
  induction d with
  | zero =>
    intro i fu b hi hf
    obtain ⟨fu, rfl⟩ : ∃ g, fu = g + 1 := ⟨fu - 1, by omega⟩
    have e1 : nI s ≤ nI i := nI_le (by omega) (by omega)
    cases b with
    | true =>
      rw [f11_rowsAt_L45, if_pos e1, if_pos rfl, if_neg b_10, x_in hs (by omega), x_gd, f11_rowsAt_J102, x_in hs (by omega), x_gd, x_lt, f11_rowsAt_J114, x_lt, x_lt, if_neg b_10, x_d27 (by omega), x_cl (by omega), l_0, nI_add, Nat.add_zero]; rfl
    | false =>
      rw [f11_rowsAt_L45, if_pos e1, if_pos (show (if false = true then (1 : Int32) else 0) = 0 by decide), f11_rowsAt_J102, x_in hs (by omega), x_gd, x_lt, f11_rowsAt_J114, x_lt, x_lt, if_pos (show (if false = true then (1 : Int32) else 0) = 0 by decide), x_d27 (by omega), x_cl (by omega), nI_1]; rfl
  | succ d ih =>
    intro i fu b hi hf
    obtain ⟨fu, rfl⟩ : ∃ g, fu = g + 1 := ⟨fu - 1, by omega⟩
    have e1 : ¬ nI s ≤ nI i := nI_ge (by omega) (by omega)
    cases b with
    | true =>
      have e5 := ih (i + 1) fu true (by omega) (by omega)
      rw [if_pos rfl] at e5
      rw [f11_rowsAt_L45, if_neg e1, if_pos rfl, if_neg b_10, f11_rowsAt_J68, f11_rowsAt_J73, x_lt, nI_1, e5]; rfl
    | false =>
      rw [f11_rowsAt_L45, if_neg e1, if_pos (show (if false = true then (1 : Int32) else 0) = 0 by decide), x_in (show i < 48 by omega) (by omega), x_gd, f11_rowsAt_J73, x_lt, nI_1, x_cl (by omega)]
      by_cases c1 : h2.1 (m + 48) i = nI c
      · have e5 := ih (i + 1) fu true (by omega) (by omega)
        rw [if_pos rfl] at e5
        rw [if_pos c1, e5]
        simp [fN, c1]
      · have e5 := ih (i + 1) fu false (by omega) (by omega)
        rw [if_neg (by decide)] at e5
        rw [if_neg c1, e5]
        simp [fN, c1]
/-- what the reference's row holds, route k under way -/
def rwI (N : Nat → Nat) (nd m : Nat) (h2 : Hp) (k w0 c s : Nat) : Prop := ∀ r, 0 < r → r < 531441 → ((∃ i, i < s ∧ h2.1 (m + 48) i = nI r) ↔ ((∃ j, j < k ∧ N (56 + 4 * j) = nd ∧ beg r (N (57 + 4 * j)) = true) ∨ (c < r ∧ 0 < w0 ∧ beg r w0 = true)))
theorem rw_nx {r c w0 : Nat} (hw : w0 < 531441) (hc0 : 0 < c) (hb : beg c w0 = true) (hr : 0 < r) : (c / 27 < r ∧ 0 < w0 ∧ beg r w0 = true) ↔ ((c < r ∧ 0 < w0 ∧ beg r w0 = true) ∨ r = c) := by
  have b1 := beg_t.mp hb
  have h0 : 0 < w0 := by omega
  constructor
  · rintro ⟨a1, a2, a3⟩
    have b2 := beg_t.mp a3
    by_cases hh : c < r
    · exact Or.inl ⟨hh, a2, a3⟩
    · refine Or.inr ?_
      rcases b1 with d | d | d | d <;> rcases b2 with e | e | e | e <;> omega
  · rintro (⟨a1, a2, a3⟩ | rfl)
    · exact ⟨by omega, a2, a3⟩
    · exact ⟨by omega, h0, hb⟩
theorem both_row (ok : nOk N) (hn : 5000 ≤ n) (v : vN o h1 N) {y : Int32} {k w0 nd : Nat} (hk : k < N 3) (hnd : N (56 + 4 * k) = nd) (hw : w0 < 531441) (r4 : Int32 → Int32 → Option Int32) (r4' : Int32 → Int32 → Hp → Option (Int32 × Hp)) : ∀ (d c t s fu fu' : Nat) (h2 : Hp), ltr c = d → c < 531441 → (0 < c → beg c w0 = true) → t + d ≤ 4 → s + d ≤ 48 → d < fu → d < fu' → rwI N nd m h2 k w0 c s → ∃ s' h2', f2_rowsAt_L37 K1 n o y (nI k) h1 r4 fu (nI s) (nI c) (nI t) = r4 (nI s') (nI (k + 1)) ∧ f11_rowsAt_L34 K2 n m y (nI k) r4' fu' (nI s) (nI c) h2 = r4' (nI s') (nI (k + 1)) h2' ∧ rwI N nd m h2' k w0 0 s' ∧ ChM [48] m h2 h2' ∧ s' ≤ s + d := by
  have b3 := ok.2.2.2.1
  intro d
  induction d with
  | zero =>
    intro c t s fu fu' h2 hl hc hb ht hs hf hf' iv
    obtain ⟨fu, rfl⟩ : ∃ g, fu = g + 1 := ⟨fu - 1, by omega⟩
    obtain ⟨fu', rfl⟩ : ∃ g, fu' = g + 1 := ⟨fu' - 1, by omega⟩
    have c0 : c = 0 := by
      refine Nat.eq_zero_of_not_pos (fun hh => ?_)
      have := ltr_p hh
      omega
    subst c0
    refine ⟨s, h2, ?_, ?_, iv, ChM.rf, by omega⟩
    · rw [f2_rowsAt_L37, if_pos (show nI 0 ≤ (0 : Int32) by decide), x_lt, ite_self, nI_1]
    · rw [f11_rowsAt_L34, if_pos (show nI 0 ≤ (0 : Int32) by decide), x_lt, nI_1]
  | succ d ih =>
    intro c t s fu fu' h2 hl hc hb ht hs hf hf' iv
    obtain ⟨fu, rfl⟩ : ∃ g, fu = g + 1 := ⟨fu - 1, by omega⟩
    obtain ⟨fu', rfl⟩ : ∃ g, fu' = g + 1 := ⟨fu' - 1, by omega⟩
    have c0 : 0 < c := by
      refine Nat.pos_of_ne_zero (fun hh => ?_)
      rw [hh, ltr_0] at hl; omega
    have hb := hb c0
    have hl' : ltr (c / 27) = d := by rw [ltr_d hc]; omega
    have hb' : 0 < c / 27 → beg (c / 27) w0 = true := fun hp => by
      rw [beg_t]
      rcases beg_t.mp hb with e | e | e | e <;> omega
    have e1 : ¬ (4 : Int32) ≤ nI t := by rw [show (4 : Int32) = nI 4 from rfl]; exact nI_ge (by omega) (by omega)
    have e2 : ¬ nI c ≤ 0 := nI_nle (by omega) (by omega)
    have cb := c_rowBefore (K1 := K1) (n := n) ok v hk c0 hc (by omega)
    have mh := m_had (K2 := K2) (n := n) (m := m) (h2 := h2) (y := y) (kx := nI k) (s := s) (c := c) (r4 := r4') (r34 := f11_rowsAt_L34 K2 n m y (nI k) r4' fu') (by omega) hc s 0 n false (by omega) (by omega)
    rw [if_neg (by decide), Bool.false_or] at mh
    have m34 : f11_rowsAt_L34 K2 n m y (nI k) r4' (fu' + 1) (nI s) (nI c) h2 = f11_rowsAt_L45 K2 n m y (nI s) (nI k) (nI c) h2 r4' (f11_rowsAt_L34 K2 n m y (nI k) r4' fu') n 0 (nI 0) := by
      rw [f11_rowsAt_L34, if_neg e2]; rfl
    have c37 : f2_rowsAt_L37 K1 n o y (nI k) h1 r4 (fu + 1) (nI s) (nI c) (nI t) = f2_rowsAt_L37 K1 n o y (nI k) h1 r4 fu (if (if (fN (rbP N k c) 0 k).isSome = true then (1 : Int32) else 0) = 0 then nI (s + 1) else nI s) (nI (c / 27)) (nI (t + 1)) := by
      rw [f2_rowsAt_L37, if_neg e1, if_neg e2, cb, x_bp, f2_rowsAt_J61, x_lt, x_lt, nI_1, nI_1, x_d27 (by omega)]
    have key : (∃ i, i < s ∧ h2.1 (m + 48) i = nI c) ↔ (∃ j, j < k ∧ N (56 + 4 * j) = nd ∧ beg c (N (57 + 4 * j)) = true) := by
      rw [iv c c0 hc]
      constructor
      · rintro (hh | ⟨hh, -⟩)
        · exact hh
        · omega
      · exact Or.inl
    rw [m34, c37, mh]
    by_cases hb1 : ∃ i, i < s ∧ h2.1 (m + 48) i = nI c
    · have q1 : (fN (fun i => decide (h2.1 (m + 48) i = nI c)) 0 s).isSome = true := by
        cases hq : fN (fun i => decide (h2.1 (m + 48) i = nI c)) 0 s with
        | none =>
          obtain ⟨i, i1, i2⟩ := hb1
          have := fN_none hq i (by omega) (by omega)
          simp [i2] at this
        | some _ => rfl
      have q2 : (fN (rbP N k c) 0 k).isSome = true := by
        cases hq : fN (rbP N k c) 0 k with
        | none =>
          obtain ⟨i, i1, i2, i3⟩ := key.mp hb1
          have := fN_none hq i (by omega) (by omega)
          simp [rbP, i2, i3, hnd] at this
        | some _ => rfl
      rw [if_pos q1, if_pos q2, if_neg b_10]
      have iv' : rwI N nd m (sI h2 (m + 48) s (h2.1 (m + 48) s)) k w0 (c / 27) s := fun r hr0 hr => by
        have : (∃ i, i < s ∧ (sI h2 (m + 48) s (h2.1 (m + 48) s)).1 (m + 48) i = nI r) ↔ (∃ i, i < s ∧ h2.1 (m + 48) i = nI r) := by
          constructor
          · rintro ⟨i, i1, i2⟩; rw [rI_n (by omega)] at i2; exact ⟨i, i1, i2⟩
          · rintro ⟨i, i1, i2⟩; exact ⟨i, i1, by rw [rI_n (by omega)]; exact i2⟩
        rw [this, iv r hr0 hr, rw_nx hw c0 hb hr0]
        constructor
        · rintro (hh | hh)
          · exact Or.inl hh
          · exact Or.inr (Or.inl hh)
        · rintro (hh | hh | rfl)
          · exact Or.inl hh
          · exact Or.inr hh
          · exact Or.inl (key.mp hb1)
      obtain ⟨s', h2', a1, a2, a3, a4, a5⟩ := ih (c / 27) (t + 1) s fu fu' _ hl' (by omega) hb' (by omega) (by omega) (by omega) (by omega) iv'
      exact ⟨s', h2', a1, a2, a3, (ChM.A (by omega) (by simp) ChM.rf).tr a4, by omega⟩
    · have q1 : ¬ (fN (fun i => decide (h2.1 (m + 48) i = nI c)) 0 s).isSome = true := fun hh => by
        obtain ⟨i, hq⟩ := Option.isSome_iff_exists.mp hh
        obtain ⟨g1, g2, g3, -⟩ := fN_some hq
        exact hb1 ⟨i, by omega, by simpa using g3⟩
      have q2 : ¬ (fN (rbP N k c) 0 k).isSome = true := fun hh => by
        obtain ⟨i, hq⟩ := Option.isSome_iff_exists.mp hh
        obtain ⟨g1, g2, g3, -⟩ := fN_some hq
        simp only [rbP, Bool.and_eq_true, beq_iff_eq] at g3
        exact hb1 (key.mpr ⟨i, by omega, by rw [g3.1, hnd], g3.2⟩)
      rw [if_neg q1, if_neg q2, if_pos rfl]
      have iv' : rwI N nd m (sI h2 (m + 48) s (nI c)) k w0 (c / 27) (s + 1) := fun r hr0 hr => by
        have : (∃ i, i < s + 1 ∧ (sI h2 (m + 48) s (nI c)).1 (m + 48) i = nI r) ↔ ((∃ i, i < s ∧ h2.1 (m + 48) i = nI r) ∨ r = c) := by
          constructor
          · rintro ⟨i, i1, i2⟩
            by_cases hi : i = s
            · subst hi; rw [rI_e, x_eq (by omega) (by omega)] at i2; exact Or.inr i2.symm
            · rw [rI_n (by omega)] at i2; exact Or.inl ⟨i, by omega, i2⟩
          · rintro (⟨i, i1, i2⟩ | rfl)
            · exact ⟨i, by omega, by rw [rI_n (by omega)]; exact i2⟩
            · exact ⟨s, by omega, rI_e⟩
        rw [this, iv r hr0 hr, rw_nx hw c0 hb hr0, or_assoc]
      obtain ⟨s', h2', a1, a2, a3, a4, a5⟩ := ih (c / 27) (t + 1) (s + 1) fu fu' _ hl' (by omega) hb' (by omega) (by omega) (by omega) (by omega) iv'
      exact ⟨s', h2', a1, a2, a3, (ChM.A (by omega) (by simp) ChM.rf).tr a4, by omega⟩
theorem both_rowsAt (ok : nOk N) (hn : 5000 ≤ n) (v : vN o h1 N) (vm : vMN m h2 N j) {nd : Nat} (hd : nd < 6) : ∃ w h2', f2_rowsAt K1 n o (nI nd) h1 = some w ∧ f11_rowsAt K2 n m (nI nd) h2 = some (w, h2') ∧ ChM [48] m h2 h2' := by
  have b3 := ok.2.2.2.1
  have b0 := ok.1
  have e3 : h1.1 o 3 = nI (N 3) := v.1 3 (by omega)
  have go : ∀ (d k s fu fu' : Nat) (h2 : Hp), k + d = N 3 → d < fu → d < fu' → s ≤ 4 * k → vMN m h2 N j → rwI N nd m h2 k 0 0 s → ∃ w h2', f2_rowsAt_L4 K1 n o (nI nd) h1 fu (nI s) (nI k) = some w ∧ f11_rowsAt_L4 K2 n m (nI nd) fu' (nI s) (nI k) h2 = some (w, h2') ∧ ChM [48] m h2 h2' := by
    intro d
    induction d with
    | zero =>
      intro k s fu fu' h2 hk hf hf' hs vm iv
      obtain ⟨fu, rfl⟩ : ∃ g, fu = g + 1 := ⟨fu - 1, by omega⟩
      obtain ⟨fu', rfl⟩ : ∃ g, fu' = g + 1 := ⟨fu' - 1, by omega⟩
      have e1 : nI (N 3) ≤ nI k := nI_le (by omega) (by omega)
      exact ⟨nI s, h2, by rw [f2_rowsAt_L4, e3, if_pos e1], by rw [f11_rowsAt_L4, mroutes vm, x_bp, if_pos e1], ChM.rf⟩
    | succ d ih =>
      intro k s fu fu' h2 hk hf hf' hs vm iv
      obtain ⟨fu, rfl⟩ : ∃ g, fu = g + 1 := ⟨fu - 1, by omega⟩
      obtain ⟨fu', rfl⟩ : ∃ g, fu' = g + 1 := ⟨fu' - 1, by omega⟩
      have e1 : ¬ nI (N 3) ≤ nI k := nI_ge (by omega) (by omega)
      obtain ⟨e2, e2', -, -⟩ := v.2.2.2.2.1 k (by omega)
      obtain ⟨q1, ⟨q2, q3⟩, -, -⟩ := ok.2.2.2.2.2.2.2.2.1 k (by omega)
      have e4 : f11_routeAt K2 n m (nI k) (0 : Int32) h2 = some (nI (N (56 + 4 * k))) := mrouteAt vm (k := k) (w := 0) (by omega)
      have e5 : f11_routeAt K2 n m (nI k) (1 : Int32) h2 = some (nI (N (57 + 4 * k))) := by
        have := mrouteAt (K := K2) (n := n) vm (k := k) (w := 1) (by omega)
        rw [show 56 + 4 * k + 1 = 57 + 4 * k by omega] at this
        exact this
      have cs : f2_rowsAt_L4 K1 n o (nI nd) h1 (fu + 1) (nI s) (nI k) = f2_rowsAt_L37 K1 n o (nI nd) (nI k) h1 (f2_rowsAt_L4 K1 n o (nI nd) h1 fu) n (nI s) (nI (if N (56 + 4 * k) = nd then N (57 + 4 * k) else 0)) (nI 0) := by
        rw [f2_rowsAt_L4, e3, if_neg e1, x_in (show k < 12 by omega) (by omega), x_gd, x_gd, x_cl (by omega), e2, e2', f2_rowsAt_J32, f2_rowsAt_J32]
        simp only [x_eq (show N (56 + 4 * k) < 2147483648 by omega) (show nd < 2147483648 by omega)]
        by_cases hc : N (56 + 4 * k) = nd
        · rw [if_pos hc, if_pos hc]; rfl
        · rw [if_neg hc, if_neg hc]; rfl
      have ms : f11_rowsAt_L4 K2 n m (nI nd) (fu' + 1) (nI s) (nI k) h2 = f11_rowsAt_L34 K2 n m (nI nd) (nI k) (f11_rowsAt_L4 K2 n m (nI nd) fu') n (nI s) (nI (if N (56 + 4 * k) = nd then N (57 + 4 * k) else 0)) h2 := by
        rw [f11_rowsAt_L4, mroutes vm, x_bp, if_neg e1, e4, x_bp, e5, x_bp, f11_rowsAt_J32, f11_rowsAt_J32]
        simp only [x_eq (show N (56 + 4 * k) < 2147483648 by omega) (show nd < 2147483648 by omega)]
        by_cases hc : N (56 + 4 * k) = nd
        · rw [if_pos hc, if_pos hc]
        · rw [if_neg hc, if_neg hc]; rfl
      rw [cs, ms]
      by_cases hc : N (56 + 4 * k) = nd
      · rw [if_pos hc]
        have lt4 := ltr_le (N (57 + 4 * k))
        have iv' : rwI N nd m h2 k (N (57 + 4 * k)) (N (57 + 4 * k)) s := fun r hr0 hr => by
          rw [iv r hr0 hr]
          constructor
          · rintro (hh | ⟨-, hh, -⟩)
            · exact Or.inl hh
            · omega
          · rintro (hh | ⟨h1, h2, h3⟩)
            · exact Or.inl hh
            · have := beg_t.mp h3
              omega
        obtain ⟨s', h2', a1, a2, a3, a4, a5⟩ := both_row (K1 := K1) (K2 := K2) (m := m) (y := nI nd) ok hn v (show k < N 3 by omega) hc q3 (f2_rowsAt_L4 K1 n o (nI nd) h1 fu) (f11_rowsAt_L4 K2 n m (nI nd) fu') (ltr (N (57 + 4 * k))) (N (57 + 4 * k)) 0 s n n h2 rfl q3 (fun _ => beg_t.mpr (Or.inl rfl)) (by omega) (by omega) (by omega) (by omega) iv'
        have vm' : vMN m h2' N j := ⟨vm.1, by rw [a4.f (by simp)]; exact vm.2.1, by rw [a4.f (by simp)]; exact vm.2.2.1, by rw [a4.f (by simp)]; exact vm.2.2.2.1, fun i hi => by rw [a4.a (by omega) (by simp)]; exact vm.2.2.2.2 i hi⟩
        have iv2 : rwI N nd m h2' (k + 1) 0 0 s' := fun r hr0 hr => by
          rw [a3 r hr0 hr]
          constructor
          · rintro (⟨i, i1, i2, i3⟩ | ⟨i1, i2, i3⟩)
            · exact Or.inl ⟨i, by omega, i2, i3⟩
            · exact Or.inl ⟨k, by omega, hc, i3⟩
          · rintro (⟨i, i1, i2, i3⟩ | ⟨-, hh, -⟩)
            · by_cases hi : i = k
              · subst hi; exact Or.inr ⟨by omega, by omega, i3⟩
              · exact Or.inl ⟨i, by omega, i2, i3⟩
            · omega
        obtain ⟨w, h3, c1, c2, c3⟩ := ih (k + 1) s' fu fu' h2' (by omega) (by omega) (by omega) (by omega) vm' iv2
        exact ⟨w, h3, a1.trans c1, a2.trans c2, a4.tr c3⟩
      · rw [if_neg hc]
        obtain ⟨nf, hnf⟩ : ∃ g, n = g + 1 := ⟨n - 1, by omega⟩
        have z1 : f2_rowsAt_L37 K1 n o (nI nd) (nI k) h1 (f2_rowsAt_L4 K1 n o (nI nd) h1 fu) n (nI s) (nI 0) (nI 0) = f2_rowsAt_L4 K1 n o (nI nd) h1 fu (nI s) (nI (k + 1)) := by
          have : ∀ q, f2_rowsAt_L37 K1 n o (nI nd) (nI k) h1 (f2_rowsAt_L4 K1 n o (nI nd) h1 fu) (q + 1) (nI s) (nI 0) (nI 0) = f2_rowsAt_L4 K1 n o (nI nd) h1 fu (nI s) (nI (k + 1)) := fun q => by
            rw [f2_rowsAt_L37, if_pos (show nI 0 ≤ (0 : Int32) by decide), x_lt, ite_self, nI_1]
          have h' := this (n - 1)
          rw [show n - 1 + 1 = n by omega] at h'
          exact h'
        have z2 : f11_rowsAt_L34 K2 n m (nI nd) (nI k) (f11_rowsAt_L4 K2 n m (nI nd) fu') n (nI s) (nI 0) h2 = f11_rowsAt_L4 K2 n m (nI nd) fu' (nI s) (nI (k + 1)) h2 := by
          have : ∀ q, f11_rowsAt_L34 K2 n m (nI nd) (nI k) (f11_rowsAt_L4 K2 n m (nI nd) fu') (q + 1) (nI s) (nI 0) h2 = f11_rowsAt_L4 K2 n m (nI nd) fu' (nI s) (nI (k + 1)) h2 := fun q => by
            rw [f11_rowsAt_L34, if_pos (show nI 0 ≤ (0 : Int32) by decide), x_lt, nI_1]
          have h' := this (n - 1)
          rw [show n - 1 + 1 = n by omega] at h'
          exact h'
        rw [z1, z2]
        refine ih (k + 1) s fu fu' h2 (by omega) (by omega) (by omega) (by omega) vm (fun r hr0 hr => ?_)
        rw [iv r hr0 hr]
        constructor
        · rintro (⟨i, i1, i2, i3⟩ | ⟨-, hh, -⟩)
          · exact Or.inl ⟨i, by omega, i2, i3⟩
          · omega
        · rintro (⟨i, i1, i2, i3⟩ | ⟨-, hh, -⟩)
          · by_cases hi : i = k
            · subst hi; exact absurd i2 hc
            · exact Or.inl ⟨i, by omega, i2, i3⟩
          · omega
  refine go (N 3) 0 0 n n h2 (by omega) (by omega) (by omega) (by omega) vm (fun r hr0 hr => ?_)
  constructor
  · rintro ⟨i, i1, -⟩; omega
  · rintro (⟨i, i1, -⟩ | ⟨-, hh, -⟩) <;> omega
end Rows
