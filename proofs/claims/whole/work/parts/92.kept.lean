/-! what is kept, what is entered and what came of an ask, on both sides -/
section Kept
variable {K1 K2 : Ly} {n c o m j : Nat} {h1 h2 : Hp} {N : Nat → Nat} {aw : Int32} {kb : Nat} {st : St}
theorem m_inL {x l : Nat} (hx : x < 2147483648) (hl : l < 2147483648) : f11_in (nI x) 0 (nI l - 1) = if x < l then 1 else 0 := by
  unfold f11_in
  rw [if_neg (nI_pos hx)]
  by_cases h0 : l = 0
  · subst h0
    have e1 : nI 0 - (1 : Int32) < nI x := by
      have q1 : (nI 0 - (1 : Int32)).toInt = -1 := rfl
      have q2 : ¬ nI x < 0 := nI_pos hx
      rw [Int32.lt_iff_toInt_lt] at q2 ⊢
      have : (0 : Int32).toInt = 0 := rfl
      omega
    rw [if_pos e1, if_neg (by omega)]
  · rw [x_sub1 (by omega)]
    simp only [x_lt' (show l - 1 < 2147483648 by omega) hx]
    by_cases hc : x < l
    · rw [if_neg (by omega), if_pos hc]
    · rw [if_pos (by omega), if_neg hc]
theorem m_inG {x y : Int32} (hx : x < 0) : f11_in x 0 y = 0 := by unfold f11_in; rw [if_pos hx]
theorem both_kept {x : Nat} (hx : x < 6) (i w : Int32) (V : WW K1 c h1 o m h2 j N aw kb st) : ∃ v,
    (if i < 0 then some ((-1 : Int32), h1) else if i < (h1.1 (c + 743 + 4 * x) 0) then (if w = (0 : Int32) then gd (inb i 4) <| some ((h1.1 (c + 743 + 4 * x + 1) i.toNatClampNeg), h1) else if w = (1 : Int32) then gd (inb i 4) <| some ((h1.1 (c + 743 + 4 * x + 2) i.toNatClampNeg), h1) else if w = (2 : Int32) then gd (inb i 4) <| some ((h1.1 (c + 743 + 4 * x + 3) i.toNatClampNeg), h1) else some ((-1 : Int32), h1)) else some ((-1 : Int32), h1)) = some (v, h1) ∧
    (if (f11_in i (0 : Int32) ((h2.1 (m + 14) x) - (1 : Int32))) = 0 then some ((-1 : Int32), h2) else lt (((6 : Int32) * nI x) + i) fun z => if w = 0 then gd (inb z 36) <| some ((h2.1 (m + 15) z.toNatClampNeg), h2) else if w = (1 : Int32) then gd (inb z 36) <| some ((h2.1 (m + 16) z.toNatClampNeg), h2) else if w = (2 : Int32) then gd (inb z 36) <| some ((h2.1 (m + 17) z.toNatClampNeg), h2) else some ((-1 : Int32), h2)) = some (v, h2) := by
  obtain ⟨⟨vc, vm, I⟩, dk⟩ := id V
  obtain ⟨v1, v2, v3, v4, v5, v6, v7, v8, v9, v10⟩ := id vc
  obtain ⟨w1, w2, w3, w4, w5, w6, w7, w8, w9, w10⟩ := id vm
  obtain ⟨-, s1, s2, s3⟩ := v8 x hx
  obtain ⟨t1, t2, t3⟩ := w8 x hx
  by_cases hi : i < 0
  · exact ⟨-1, by rw [if_pos hi], by rw [m_inG hi, if_pos rfl]⟩
  · obtain ⟨y, hy, rfl⟩ := nI_of hi
    rw [if_neg hi, s2, t1, m_inL hy (by omega)]
    simp only [x_lt' hy (show (s_S st x).length < 2147483648 by omega), x_lt]
    by_cases hc : y < (s_S st x).length
    · have g1 := s3 y hc
      have g2 := t3 y _ g1
      have e1 : inb (nI y) 4 = true := x_in (by omega) (by omega)
      have e2 : (nI y).toNatClampNeg = y := x_cl hy
      have e3 : (6 : Int32) * nI x + nI y = nI (6 * x + y) := by rw [l_6, pk_mul, nI_add]
      have e4 : inb (nI (6 * x + y)) 36 = true := x_in (by omega) (by omega)
      have e5 : (nI (6 * x + y)).toNatClampNeg = 6 * x + y := x_cl (by omega)
      simp only [if_pos hc, if_neg b_10, e1, e2, e3, e4, e5, x_gd, g2.1, g2.2.1, g2.2.2]
      by_cases k0 : w = 0
      · exact ⟨_, by rw [if_pos k0], by rw [if_pos k0]⟩
      by_cases k1 : w = 1
      · exact ⟨_, by rw [if_neg k0, if_pos k1], by rw [if_neg k0, if_pos k1]⟩
      by_cases k2 : w = 2
      · exact ⟨_, by rw [if_neg k0, if_neg k1, if_pos k2], by rw [if_neg k0, if_neg k1, if_pos k2]⟩
      exact ⟨_, by rw [if_neg k0, if_neg k1, if_neg k2], by rw [if_neg k0, if_neg k1, if_neg k2]⟩
    · exact ⟨-1, by rw [if_neg hc], by rw [if_neg hc, if_pos rfl]⟩
theorem c_entryAt {nd y : Nat} {L : List En} (kc : KC K1 c) (hn : 400 ≤ n) (hy : y < 2147483648) (v : cvE c h1 L) : ((L.filter (atN nd)).length ≤ y → f10_entryAt K1 n c (nI nd) (nI y) h1 = some none) ∧ (∀ e, (L.filter (atN nd))[y]? = some e → ∃ x, x < 360 ∧ f10_entryAt K1 n c (nI nd) (nI y) h1 = some (some (c + 23 + 2 * x)) ∧ agE (rwo h1 (c + 23 + 2 * x)) e) := by
  have go : ∀ (w u : List En) (s fu : Nat), L = u ++ w → w.length < fu → s ≤ y → ((w.filter (atN nd)).length ≤ y - s → f10_entryAt_L5 K1 n c (nI nd) (nI y) h1 fu (nI s) (nI u.length) = some none) ∧ (∀ e, (w.filter (atN nd))[y - s]? = some e → ∃ x, x < 360 ∧ f10_entryAt_L5 K1 n c (nI nd) (nI y) h1 fu (nI s) (nI u.length) = some (some (c + 23 + 2 * x)) ∧ agE (rwo h1 (c + 23 + 2 * x)) e) := by
    intro w
    induction w with
    | nil =>
      intro u s fu hl hf hs
      obtain ⟨fu, rfl⟩ : ∃ g, fu = g + 1 := ⟨fu - 1, by omega⟩
      have l := cvE_len v
      have l2 : L.length = u.length := by rw [hl]; simp
      have e0 : h1.1 c 6 ≤ nI u.length := by rw [l.2]; exact nI_le (by omega) (by omega)
      refine ⟨fun _ => by simp only [f10_entryAt_L5, if_pos e0], fun e he => ?_⟩
      simp at he
    | cons e w ih =>
      intro u s fu hl hf hs
      obtain ⟨fu, rfl⟩ : ∃ g, fu = g + 1 := ⟨fu - 1, by omega⟩
      have v' := v
      rw [hl] at v'
      obtain ⟨x, j1, j2, j3, j4, j5, j6, -⟩ := cvE_at v'
      have e0 : ¬ h1.1 c 6 ≤ nI u.length := by rw [j4]; exact nI_ge (by simp) (by omega)
      have e3 : inb (nI u.length) 360 = true := x_in (by omega) (by omega)
      have e4 : (nI u.length).toNatClampNeg = u.length := x_cl (by omega)
      have g0 : h1.1 (c + 23 + 2 * x) 0 = e.1 0 := j6.1 0 (by omega) (by omega) (by omega)
      simp only [f10_entryAt_L5, if_neg e0, e3, e4, x_gd, j3, x_ob (kc.1 x j1), g0, x_lt, nI_1, x_eq (show s < 2147483648 by omega) hy]
      by_cases hc : e.1 0 = nI nd
      · rw [List.filter_cons_of_pos (by simp [atN, hc])]
        simp only [if_pos hc]
        by_cases hsy : s = y
        · subst hsy
          simp only [if_true, Nat.sub_self, List.length_cons, List.getElem?_cons_zero]
          refine ⟨fun hh => by omega, fun e' he => ⟨x, j1, rfl, ?_⟩⟩
          have : e = e' := Option.some.inj he
          rw [← this]; exact j6
        · simp only [if_neg hsy]
          have := ih (u ++ [e]) (s + 1) fu (by simp [hl]) (by simp at hf; omega) (by omega)
          rw [← len_sn (t := e)] at this
          obtain ⟨r, hr⟩ : ∃ r, y - s = r + 1 := ⟨y - s - 1, by omega⟩
          rw [hr, List.length_cons, List.getElem?_cons_succ]
          rw [show y - (s + 1) = r by omega] at this
          exact ⟨fun hh => this.1 (by omega), this.2⟩
      · rw [List.filter_cons_of_neg (by simp [atN, hc])]
        simp only [if_neg hc]
        have := ih (u ++ [e]) s fu (by simp [hl]) (by simp at hf; omega) hs
        rw [← len_sn (t := e)] at this
        exact this
  have l := cvE_len v
  exact go L [] 0 n rfl (by omega) (by omega)
theorem c_entryNeg {nd : Nat} {i : Int32} {L : List En} (kc : KC K1 c) (hn : 400 ≤ n) (hi : i < 0) (v : cvE c h1 L) : f10_entryAt K1 n c (nI nd) i h1 = some none := by
  have go : ∀ (w u : List En) (s fu : Nat), L = u ++ w → w.length < fu → s ≤ u.length → f10_entryAt_L5 K1 n c (nI nd) i h1 fu (nI s) (nI u.length) = some none := by
    intro w
    induction w with
    | nil =>
      intro u s fu hl hf hs
      obtain ⟨fu, rfl⟩ : ∃ g, fu = g + 1 := ⟨fu - 1, by omega⟩
      have l := cvE_len v
      have l2 : L.length = u.length := by rw [hl]; simp
      have e0 : h1.1 c 6 ≤ nI u.length := by rw [l.2]; exact nI_le (by omega) (by omega)
      simp only [f10_entryAt_L5, if_pos e0]
    | cons e w ih =>
      intro u s fu hl hf hs
      obtain ⟨fu, rfl⟩ : ∃ g, fu = g + 1 := ⟨fu - 1, by omega⟩
      have v' := v
      rw [hl] at v'
      obtain ⟨x, j1, j2, j3, j4, j5, j6, -⟩ := cvE_at v'
      have e0 : ¬ h1.1 c 6 ≤ nI u.length := by rw [j4]; exact nI_ge (by simp) (by omega)
      have e3 : inb (nI u.length) 360 = true := x_in (by omega) (by omega)
      have e4 : (nI u.length).toNatClampNeg = u.length := x_cl (by omega)
      have g0 : h1.1 (c + 23 + 2 * x) 0 = e.1 0 := j6.1 0 (by omega) (by omega) (by omega)
      have ns : ¬ nI s = i := fun hh => nI_pos (show s < 2147483648 by omega) (hh ▸ hi)
      simp only [f10_entryAt_L5, if_neg e0, e3, e4, x_gd, j3, x_ob (kc.1 x j1), g0, x_lt, nI_1, if_neg ns]
      have a1 := ih (u ++ [e]) (s + 1) fu (by simp [hl]) (by simp at hf; omega) (by simp; omega)
      have a2 := ih (u ++ [e]) s fu (by simp [hl]) (by simp at hf; omega) (by simp; omega)
      rw [← len_sn (t := e)] at a1 a2
      rw [a1, a2, ite_self]
  have l := cvE_len v
  exact go L [] 0 n rfl (by omega) (by simp)
end Kept
