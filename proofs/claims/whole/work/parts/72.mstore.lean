/-! the reference's stores -/
def mS0 (m : Nat) (h : Hp) (nd b : Nat) (l : List So) : Prop := ∀ i t, l[i]? = some t → h.1 (m + 15) (6 * nd + b + i) = t.1 ∧ h.1 (m + 16) (6 * nd + b + i) = t.2.1 ∧ h.1 (m + 17) (6 * nd + b + i) = t.2.2
/-- only this node's store has changed -/
def lcS (m nd : Nat) (h h' : Hp) : Prop := (∀ a k, ¬ ((a = m + 14 ∧ k = nd) ∨ (m + 15 ≤ a ∧ a ≤ m + 17 ∧ 6 * nd ≤ k ∧ k < 6 * nd + 6)) → h'.1 a k = h.1 a k) ∧ h'.2 = h.2
section MStore
variable {K : Ly} {n m j : Nat} {N : Nat → Nat}
theorem lcS.rf {nd : Nat} {h : Hp} : lcS m nd h h := ⟨fun _ _ _ => rfl, rfl⟩
theorem lcS.tr {nd : Nat} {h h1 h2 : Hp} (q1 : lcS m nd h h1) (q2 : lcS m nd h1 h2) : lcS m nd h h2 := ⟨fun a k ha => (q2.1 a k ha).trans (q1.1 a k ha), q2.2.trans q1.2⟩
theorem lcS.I {nd a k : Nat} {x : Int32} {h h1 : Hp} (ha : (a = m + 14 ∧ k = nd) ∨ (m + 15 ≤ a ∧ a ≤ m + 17 ∧ 6 * nd ≤ k ∧ k < 6 * nd + 6)) (q1 : lcS m nd h h1) : lcS m nd h (sI h1 a k x) := ⟨fun b i hb => by rw [rI_n (by omega)]; exact q1.1 b i hb, q1.2⟩
theorem lcS.ch {nd : Nat} {h h1 : Hp} (q : lcS m nd h h1) : ChM [14, 15, 16, 17] m h h1 := fun a k ha => by
  refine ⟨q.1 a k (fun hh => ha ?_), by rw [q.2], by rw [q.2]⟩
  rcases hh with ⟨rfl, -⟩ | ⟨h1, h2, -⟩
  · rw [rm_a (by omega)]; simp
  · obtain ⟨b, rfl⟩ : ∃ b, a = m + b := ⟨a - m, by omega⟩
    rw [rm_a (by omega)]; simp only [List.mem_cons, List.not_mem_nil, or_false]; omega
theorem mS0.app {nd b : Nat} {h : Hp} {u w : List So} (h1 : mS0 m h nd b u) (h2 : mS0 m h nd (b + u.length) w) : mS0 m h nd b (u ++ w) := fun i t ht => by
  by_cases hi : i < u.length
  · rw [List.getElem?_append_left hi] at ht; exact h1 i t ht
  · rw [List.getElem?_append_right (by omega)] at ht
    have := h2 (i - u.length) t ht
    rw [show 6 * nd + (b + u.length) + (i - u.length) = 6 * nd + b + i by omega] at this
    exact this
theorem mstored_L {h : Hp} {nd : Nat} {x : Int32} {l : List So} (hnd : nd < 6) (v : mS1 m h nd l) : ∀ (w u : List So) (fu : Nat), l = u ++ w → w.length < fu → f11_storedAt_L2 K n m (nI nd) x h fu (nI u.length) = some (ix u.length (fs (isN x) w)) := by
  have v1 := v.2.1
  have i6 : inb (nI nd) 6 = true := x_in (by omega) (by omega)
  have i7 : (nI nd).toNatClampNeg = nd := x_cl (by omega)
  intro w
  induction w with
  | nil =>
    intro u fu hl hf
    obtain ⟨fu, rfl⟩ : ∃ g, fu = g + 1 := ⟨fu - 1, by omega⟩
    have e0 : h.1 (m + 14) nd ≤ nI u.length := by rw [v.1, hl]; simp only [List.append_nil]; exact nI_le (Nat.le_refl _) (by rw [hl] at v1; simp at v1; omega)
    simp only [f11_storedAt_L2, i6, i7, x_gd, if_pos e0]; rfl
  | cons t w ih =>
    intro u fu hl hf
    obtain ⟨fu, rfl⟩ : ∃ g, fu = g + 1 := ⟨fu - 1, by omega⟩
    have hl2 : l.length = u.length + 1 + w.length := by rw [hl]; simp; omega
    have e0 : ¬ h.1 (m + 14) nd ≤ nI u.length := by rw [v.1]; exact nI_ge (by omega) (by omega)
    have e1 := v.2.2 u.length t (by rw [hl, ge_mid])
    have e4 : (6 : Int32) * nI nd + nI u.length = nI (6 * nd + u.length) := by rw [l_6, pk_mul, nI_add]
    have e5 : inb (nI (6 * nd + u.length)) 36 = true := x_in (by omega) (by omega)
    have e6 : (nI (6 * nd + u.length)).toNatClampNeg = 6 * nd + u.length := x_cl (by omega)
    simp only [f11_storedAt_L2, i6, i7, x_gd, if_neg e0, e4, e5, e6, e1.1, x_lt, nI_1]
    by_cases hx : t.1 = x
    · rw [if_pos hx, ix_p (by simp [isN, hx])]
    · rw [if_neg hx, ix_n (by simp [isN, hx]), len_sn (t := t), ih (u ++ [t]) fu (by simp [hl]) (by simp at hf; omega)]
      simp
theorem mstored {h : Hp} {nd : Nat} {x : Int32} {l : List So} (hnd : nd < 6) (hn : 20 ≤ n) (v : mS1 m h nd l) : f11_storedAt K n m (nI nd) x h = some (ix 0 (fs (isN x) l)) := by
  have v1 := v.2.1
  exact mstored_L (K := K) (n := n) (x := x) hnd v l [] n rfl (by omega)
theorem mtakes_L {nd : Nat} (hnd : nd < 6) : ∀ (w u : List So) (fu : Nat) (h : Hp), u.length + w.length ≤ 4 → h.1 (m + 14) nd = nI (u.length + w.length) → mS0 m h nd 0 u → mS0 m h nd (u.length + 1) w → w.length < fu → ∃ h', f11_takesOut_L12 K n m (nI nd) fu (nI u.length) h = some h' ∧ mS0 m h' nd 0 (u ++ w) ∧ h'.1 (m + 14) nd = h.1 (m + 14) nd ∧ lcS m nd h h' := by
  have i6 : inb (nI nd) 6 = true := x_in (by omega) (by omega)
  have i7 : (nI nd).toNatClampNeg = nd := x_cl (by omega)
  intro w
  induction w with
  | nil =>
    intro u fu h h1 h2 h3 h4 hf
    obtain ⟨fu, rfl⟩ : ∃ g, fu = g + 1 := ⟨fu - 1, by omega⟩
    have e0 : h.1 (m + 14) nd ≤ nI u.length := by rw [h2]; exact nI_le (by simp) (by simp at h1; omega)
    refine ⟨h, ?_, by simpa using h3, rfl, lcS.rf⟩
    simp only [f11_takesOut_L12, i6, i7, x_gd, if_pos e0]
  | cons t w ih =>
    intro u fu h h1 h2 h3 h4 hf
    obtain ⟨fu, rfl⟩ : ∃ g, fu = g + 1 := ⟨fu - 1, by omega⟩
    simp only [List.length_cons] at h1 h2 hf
    have e0 : ¬ h.1 (m + 14) nd ≤ nI u.length := by rw [h2]; exact nI_ge (by omega) (by omega)
    have e4 : (6 : Int32) * nI nd + nI u.length = nI (6 * nd + u.length) := by rw [l_6, pk_mul, nI_add]
    have e5 : inb (nI (6 * nd + u.length)) 36 = true := x_in (by omega) (by omega)
    have e6 : (nI (6 * nd + u.length)).toNatClampNeg = 6 * nd + u.length := x_cl (by omega)
    have e7 : inb (nI (6 * nd + u.length + 1)) 36 = true := x_in (by omega) (by omega)
    have e8 : (nI (6 * nd + u.length + 1)).toNatClampNeg = 6 * nd + u.length + 1 := x_cl (by omega)
    obtain ⟨t1, t2, t3⟩ := h4 0 t (by simp)
    rw [show 6 * nd + (u.length + 1) + 0 = 6 * nd + u.length + 1 by omega] at t1 t2 t3
    obtain ⟨h1', eh⟩ : ∃ h1', h1' = sI (sI (sI h (m + 15) (6 * nd + u.length) t.1) (m + 16) (6 * nd + u.length) t.2.1) (m + 17) (6 * nd + u.length) t.2.2 := ⟨_, rfl⟩
    have lc : lcS m nd h h1' := by rw [eh]; exact lcS.I (by omega) (lcS.I (by omega) (lcS.I (by omega) lcS.rf))
    have hu : ∀ a k, k ≠ 6 * nd + u.length → h1'.1 a k = h.1 a k := fun a k hk => by rw [eh, rI_n (Or.inr hk), rI_n (Or.inr hk), rI_n (Or.inr hk)]
    obtain ⟨h', q1, q2, q3, q4⟩ := ih (u ++ [t]) fu h1' (by simp; omega) (by
        rw [(by rw [eh, rI_n (by omega), rI_n (by omega), rI_n (by omega)] : h1'.1 (m + 14) nd = h.1 (m + 14) nd), h2]; congr 1; simp; omega) (by
        refine mS0.app (fun i t' ht => ?_) (fun i t' ht => ?_)
        · have hi := (List.getElem?_eq_some_iff.mp ht).1
          rw [hu _ _ (by omega), hu _ _ (by omega), hu _ _ (by omega)]; exact h3 i t' ht
        · have hi := (List.getElem?_eq_some_iff.mp ht).1
          simp only [List.length_cons, List.length_nil] at hi
          obtain rfl : i = 0 := by omega
          simp only [List.getElem?_cons_zero, Option.some.injEq] at ht
          subst ht
          rw [show 6 * nd + (0 + u.length) + 0 = 6 * nd + u.length by omega, eh]
          simp (disch := omega) only [rI_n, rI_e]
          exact ⟨trivial, trivial, trivial⟩) (fun i t' ht => by
        have := h4 (i + 1) t' (by simpa using ht)
        rw [show 6 * nd + (u.length + 1) + (i + 1) = 6 * nd + ((u ++ [t]).length + 1) + i by simp; omega] at this
        rw [hu _ _ (by simp; omega), hu _ _ (by simp; omega), hu _ _ (by simp; omega)]; exact this) (by omega)
    refine ⟨h', ?_, by simpa using q2, ?_, lc.tr q4⟩
    · rw [← len_sn (t := t)] at q1
      simp only [f11_takesOut_L12, i6, i7, x_gd, if_neg e0, e4, nI_1, e5, e6, e7, e8, x_lt, t1]
      rw [rI_n (by omega), t2, rI_n (by omega), rI_n (by omega), t3, ← eh]
      exact q1
    · rw [q3, eh, rI_n (by omega), rI_n (by omega), rI_n (by omega)]
theorem mtakes {nd : Nat} {h : Hp} {u w : List So} {t : So} (hnd : nd < 6) (hn : 20 ≤ n) (hl : (u ++ t :: w).length ≤ 5) (h1 : h.1 (m + 14) nd = nI (u ++ t :: w).length) (h2 : mS0 m h nd 0 (u ++ t :: w)) : ∃ h', f11_takesOut K n m (nI nd) (nI u.length) h = some h' ∧ mS1 m h' nd (u ++ w) ∧ lcS m nd h h' := by
  have i6 : inb (nI nd) 6 = true := x_in (by omega) (by omega)
  have i7 : (nI nd).toNatClampNeg = nd := x_cl (by omega)
  have hl2 : (u ++ t :: w).length = u.length + w.length + 1 := by simp; omega
  obtain ⟨h0, eh⟩ : ∃ h0, h0 = sI h (m + 14) nd (nI (u.length + w.length)) := ⟨_, rfl⟩
  have rd : ∀ a k, a ≠ m + 14 → h0.1 a k = h.1 a k := fun a k ha => by rw [eh, rI_n (Or.inl ha)]
  obtain ⟨h', q1, q2, q3, q4⟩ := mtakes_L (K := K) (n := n) (m := m) hnd w u n h0 (by omega) (by rw [eh, rI_e]) (fun i t' ht => by
      have hi := (List.getElem?_eq_some_iff.mp ht).1
      rw [rd _ _ (by omega), rd _ _ (by omega), rd _ _ (by omega)]
      exact h2 i t' (by rw [List.getElem?_append_left hi]; exact ht)) (fun i t' ht => by
      rw [rd _ _ (by omega), rd _ _ (by omega), rd _ _ (by omega)]
      have := h2 (u.length + 1 + i) t' (by rw [List.getElem?_append_right (by omega), show u.length + 1 + i - u.length = i + 1 by omega, List.getElem?_cons_succ]; exact ht)
      rw [show 6 * nd + 0 + (u.length + 1 + i) = 6 * nd + (u.length + 1) + i by omega] at this
      exact this) (by omega)
  refine ⟨h', ?_, ⟨?_, by simp; omega, fun i t' ht => ?_⟩, (by rw [eh]; exact lcS.I (by omega) lcS.rf : lcS m nd h h0).tr q4⟩
  · simp only [f11_takesOut, i6, i7, x_gd, h1, hl2, nI_pred, x_lt]
    rw [← eh]; exact q1
  · rw [q3, eh, rI_e]; simp
  · have := q2 i t' ht
    simpa using this
/-- a store gets data, the reference's way -/
def ptL (l : List So) (t : So) (r : Nat) : List So := if (kpD l t.1 ++ [t]).length ≤ r then kpD l t.1 ++ [t] else (kpD l t.1 ++ [t]).tail
theorem mputs {nd : Nat} {h : Hp} {l : List So} {t : So} (ok : nOk N) (v : vMN m h N j) (hnd : nd < 6) (hn : 20 ≤ n) (hr : 1 ≤ N (5 + nd)) (vs : mS1 m h nd l) : ∃ h', f11_putsLast K n m (nI nd) t.1 t.2.1 t.2.2 h = some h' ∧ mS1 m h' nd (ptL l t (N (5 + nd))) ∧ lcS m nd h h' := by
  have i6 : inb (nI nd) 6 = true := x_in (by omega) (by omega)
  have i7 : (nI nd).toNatClampNeg = nd := x_cl (by omega)
  have r4 := ok.2.2.2.2.2.1 nd hnd
  have tail : ∀ (h1 : Hp) (l1 : List So), mS1 m h1 nd l1 → lcS m nd h h1 → ∃ h', f11_putsLast_J21 K n m (nI nd) t.1 t.2.1 t.2.2 h1 = some h' ∧ mS1 m h' nd (if (l1 ++ [t]).length ≤ N (5 + nd) then l1 ++ [t] else (l1 ++ [t]).tail) ∧ lcS m nd h h' := by
    intro h1 l1 w lc
    have w2 := w.2.1
    have e4 : (6 : Int32) * nI nd + nI l1.length = nI (6 * nd + l1.length) := by rw [l_6, pk_mul, nI_add]
    have e5 : inb (nI (6 * nd + l1.length)) 36 = true := x_in (by omega) (by omega)
    have e6 : (nI (6 * nd + l1.length)).toNatClampNeg = 6 * nd + l1.length := x_cl (by omega)
    obtain ⟨h2, eh⟩ : ∃ h2, h2 = sI (sI (sI (sI h1 (m + 15) (6 * nd + l1.length) t.1) (m + 16) (6 * nd + l1.length) t.2.1) (m + 17) (6 * nd + l1.length) t.2.2) (m + 14) nd (nI (l1.length + 1)) := ⟨_, rfl⟩
    have lc2 : lcS m nd h h2 := by rw [eh]; exact lcS.I (by omega) (lcS.I (by omega) (lcS.I (by omega) (lcS.I (by omega) lc)))
    have v2 : vMN m h2 N j := ⟨v.1, (lc2.1 _ _ (by omega)).trans v.2.1, (lc2.1 _ _ (by omega)).trans v.2.2.1, (lc2.1 _ _ (by omega)).trans v.2.2.2.1, fun i hi => (lc2.1 _ _ (by omega)).trans (v.2.2.2.2 i hi)⟩
    have on := mofNet (K := K) (n := n) v2 (i := 5 + nd) (by omega)
    have e9 : (5 : Int32) + nI nd = nI (5 + nd) := by rw [l_5, nI_add]
    have c2 : h2.1 (m + 14) nd = nI (l1.length + 1) := by rw [eh, rI_e]
    have s2 : mS0 m h2 nd 0 (l1 ++ [t]) := by
      refine mS0.app (fun i t' ht => ?_) (fun i t' ht => ?_)
      · have hi := (List.getElem?_eq_some_iff.mp ht).1
        have := w.2.2 i t' ht
        rw [eh]
        simp (disch := omega) only [rI_n, Nat.add_zero]; exact this
      · have hi := (List.getElem?_eq_some_iff.mp ht).1
        simp only [List.length_cons, List.length_nil] at hi
        obtain rfl : i = 0 := by omega
        simp only [List.getElem?_cons_zero, Option.some.injEq] at ht
        subst ht
        rw [show 6 * nd + (0 + l1.length) + 0 = 6 * nd + l1.length by omega, eh]
        simp (disch := omega) only [rI_n, rI_e]
        exact ⟨trivial, trivial, trivial⟩
    have pre : f11_putsLast_J21 K n m (nI nd) t.1 t.2.1 t.2.2 h1 = if nI (l1.length + 1) ≤ nI (N (5 + nd)) then some h2 else bp (f11_takesOut K n m (nI nd) (0 : Int32) h2) fun h22 => some h22 := by
      simp only [f11_putsLast_J21, i6, i7, x_gd, w.1, e4, x_lt, e5, e6]
      simp (disch := omega) only [rI_n, w.1, nI_1]
      rw [← eh, e9, on, x_bp, c2]
    rw [pre]
    simp only [x_le (show l1.length + 1 < 2147483648 by omega) (show N (5 + nd) < 2147483648 by omega), List.length_append, List.length_cons, List.length_nil]
    by_cases hc : l1.length + 1 ≤ N (5 + nd)
    · rw [if_pos hc, if_pos (by omega)]
      refine ⟨h2, rfl, ⟨by rw [c2]; simp, by simp; omega, fun i t' ht => by simpa using s2 i t' ht⟩, lc2⟩
    · rw [if_neg hc, if_neg (by omega)]
      match l1, w2, c2, s2 with
      | [], w2, c2, s2 => simp at hc; omega
      | a :: l2, w2, c2, s2 =>
        obtain ⟨h3, q1, q2, q3⟩ := mtakes (K := K) (n := n) (u := []) (t := a) (w := l2 ++ [t]) hnd hn (by simp at w2 ⊢; omega) (by rw [c2]; simp) s2
        refine ⟨h3, ?_, q2, lc2.tr q3⟩
        have q1 : f11_takesOut K n m (nI nd) 0 h2 = some h3 := q1
        rw [q1, x_bp]
  unfold f11_putsLast ptL kpD
  rw [mstored hnd hn vs, x_bp]
  cases hq : fs (isN t.1) l with
  | none =>
    obtain ⟨h', q1, q2, q3⟩ := tail h l vs lcS.rf
    exact ⟨h', by simp only [ix, if_true]; exact q1, q2, q3⟩
  | some r =>
    obtain ⟨u, a, w⟩ := r
    obtain ⟨l1, -, -⟩ := fs_some hq
    subst l1
    have v2 := vs.2.1
    obtain ⟨h1, q1, q2, q3⟩ := mtakes (K := K) (n := n) hnd hn (by omega) vs.1 (fun i t' ht => by simpa using vs.2.2 i t' ht)
    obtain ⟨h', p1, p2, p3⟩ := tail h1 (u ++ w) q2 q3
    have e5 : ¬ nI u.length = -1 := by
      have : u.length ≤ 4 := by simp at v2; omega
      rw [x_nm1 (by omega)]; exact not_false
    exact ⟨h', by simp only [ix, Nat.zero_add, if_neg e5, q1, x_bp]; exact p1, p2, p3⟩
theorem ptL_kpS {l : List So} {t : So} {r : Nat} (hr : 1 ≤ r) (hl : l.length ≤ r) : ptL l t r = kpS l t r := by
  have h1 := kpD_len l t.1
  unfold ptL kpS
  dsimp only
  generalize kpD l t.1 = l1 at *
  by_cases hc : r ≤ l1.length
  · rw [if_pos (And.intro (by omega) hc), if_neg (by simp; omega)]
    match l1, hc with
    | [], hc => simp at hc; omega
    | a :: l2, hc =>
      have : l2.length < r := by simp at h1; omega
      simp [this]
  · rw [if_neg (fun hh : 0 < l1.length ∧ r ≤ l1.length => hc hh.2), if_pos (show l1.length < r by omega), if_pos (by simp; omega)]
theorem kpS_0 {t : So} : kpS [] t 0 = [] := by simp [kpS, kpD, fs]
/-- the one found comes last -/
theorem ptL_use {u w : List So} {t : So} {r : Nat} (hl : (u ++ t :: w).length ≤ r) (hq : fs (isN t.1) (u ++ t :: w) = some (u, t, w)) : ptL (u ++ t :: w) t r = u ++ w ++ [t] := by
  unfold ptL kpD
  rw [hq]
  dsimp only
  rw [if_pos (by simp at hl ⊢; omega)]
end MStore
