/-! an entry and a fate, looked at on both sides -/
section Fates
variable {K1 K2 : Ly} {n c o m j : Nat} {h1 h2 : Hp} {N : Nat → Nat} {aw : Int32} {kb : Nat} {st : St}
theorem both_entry {x : Nat} (kc : KC K1 c) (hn : 5000 ≤ n) (hx : x < 6) (i w : Int32) (V : WW K1 c h1 o m h2 j N aw kb st) : ∃ v,
    (bp (f10_entryAt K1 n c (nI x) i h1) fun y => f0_entry_J85 K1 n w y h1) = some (v, h1) ∧
    (if (f11_in i (0 : Int32) ((h2.1 (m + 18) x) - (1 : Int32))) = 0 then some ((-1 : Int32), h2) else lt (((64 : Int32) * nI x) + i) fun z => if w = (0 : Int32) then gd (inb z 384) <| some ((h2.1 (m + 19) z.toNatClampNeg), h2) else if w = (1 : Int32) then gd (inb z 384) <| some ((h2.1 (m + 20) z.toNatClampNeg), h2) else if w = (2 : Int32) then gd (inb z 384) <| some ((h2.1 (m + 21) z.toNatClampNeg), h2) else if w = (3 : Int32) then gd (inb z 384) <| bp (f11_onesL K2 n (h2.2.1 (m + 22) z.toNatClampNeg) h2) fun y21 => some (y21, h2) else if w = (4 : Int32) then gd (inb z 384) <| some ((h2.1 (m + 25) z.toNatClampNeg), h2) else if w = (5 : Int32) then gd (inb z 384) <| some ((h2.1 (m + 26) z.toNatClampNeg), h2) else if w = (6 : Int32) then gd (inb z 384) <| some ((h2.1 (m + 27) z.toNatClampNeg), h2) else if w = (7 : Int32) then gd (inb z 384) <| some ((h2.1 (m + 28) z.toNatClampNeg), h2) else some ((-1 : Int32), h2)) = some (v, h2) := by
  obtain ⟨⟨vc, vm, I⟩, dk⟩ := id V
  obtain ⟨v1, v2, v3, v4, v5, v6, v7, v8, v9, v10⟩ := id vc
  obtain ⟨w1, w2, w3, w4, w5, w6, w7, w8, w9, w10⟩ := id vm
  obtain ⟨t1, t2, t3⟩ := w4 x hx
  by_cases hi : i < 0
  · exact ⟨-1, by rw [c_entryNeg kc (by omega) hi v4, x_bp]; rfl, by rw [m_inG hi, if_pos rfl]⟩
  · obtain ⟨y, hy, rfl⟩ := nI_of hi
    obtain ⟨f1, f2⟩ := c_entryAt (n := n) (nd := x) kc (by omega) hy v4
    rw [t1, m_inL hy (by omega)]
    by_cases hc : y < ((s_L st).filter (atN x)).length
    · obtain ⟨p, p1, p2, p3⟩ := f2 _ (List.getElem?_eq_getElem hc)
      have g2 := t3 y _ (List.getElem?_eq_getElem hc)
      generalize ((s_L st).filter (atN x))[y] = e at p3 g2
      obtain ⟨a1, a2, a3, a4, a5, a6, a7, a8, a9, a10⟩ := g2
      have e3 : (64 : Int32) * nI x + nI y = nI (64 * x + y) := by rw [l_64, pk_mul, nI_add]
      have e4 : inb (nI (64 * x + y)) 384 = true := x_in (by omega) (by omega)
      have e5 : (nI (64 * x + y)).toNatClampNeg = 64 * x + y := x_cl (by omega)
      have io : isO K1 (c + 23 + 2 * p) 6 = true := by
        have := kc.1 p p1
        simp [isO, this]
      have q : ∀ k, k < 11 → k ≠ 4 → k ≠ 5 → h1.1 (c + 23 + 2 * p) k = e.1 k := p3.1
      have q4 : h1.2.1 (c + 23 + 2 * p) 4 = e.2 4 := p3.2.1
      rw [p2, x_bp, if_pos hc, if_neg b_10, x_lt, e3]
      simp only [e4, e5, x_gd, a1, a2, a3, a4, a7, a8, a9, a10, m_onesL (show 100 ≤ n by omega), x_bp]
      have el : f0_entry_J85 K1 n w (some (c + 23 + 2 * p)) h1 = some (f6_look (c + 23 + 2 * p) w h1, h1) := by
        show gd (isO K1 (c + 23 + 2 * p) 6) _ = _
        rw [io]; rfl
      rw [el]
      unfold f6_look
      rw [q 1 (by omega) (by omega) (by omega), q 2 (by omega) (by omega) (by omega), q 3 (by omega) (by omega) (by omega), q 7 (by omega) (by omega) (by omega), q 8 (by omega) (by omega) (by omega), q 9 (by omega) (by omega) (by omega), q 10 (by omega) (by omega) (by omega), q4, bcL]
      refine ⟨_, rfl, ?_⟩
      by_cases k0 : w = 0
      · simp only [if_pos k0]
      by_cases k1 : w = 1
      · simp only [if_neg k0, if_pos k1]
      by_cases k2 : w = 2
      · simp only [if_neg k0, if_neg k1, if_pos k2]
      by_cases k3 : w = 3
      · simp only [if_neg k0, if_neg k1, if_neg k2, if_pos k3]
      by_cases k4 : w = 4
      · simp only [if_neg k0, if_neg k1, if_neg k2, if_neg k3, if_pos k4]
      by_cases k5 : w = 5
      · simp only [if_neg k0, if_neg k1, if_neg k2, if_neg k3, if_neg k4, if_pos k5]
      by_cases k6 : w = 6
      · simp only [if_neg k0, if_neg k1, if_neg k2, if_neg k3, if_neg k4, if_neg k5, if_pos k6]
      by_cases k7 : w = 7
      · simp only [if_neg k0, if_neg k1, if_neg k2, if_neg k3, if_neg k4, if_neg k5, if_neg k6, if_pos k7]
      simp only [if_neg k0, if_neg k1, if_neg k2, if_neg k3, if_neg k4, if_neg k5, if_neg k6, if_neg k7]
    · exact ⟨-1, by rw [f1 (by omega), x_bp]; rfl, by rw [if_neg hc, if_pos rfl]⟩
/-- what came of the ask k, which was made -/
theorem both_fate {k : Nat} (hk : k < 60) (hb : s_B st k 8 = 1) (w : Int32) (V : WW K1 c h1 o m h2 j N aw kb st) : f11_ofAsk K2 n m (nI k) w h2 = some (f9_look (c + 767 + k) w h1) := by
  obtain ⟨⟨vc, vm, I⟩, dk⟩ := id V
  obtain ⟨v1, v2, v3, v4, v5, v6, v7, v8, v9, v10⟩ := id vc
  obtain ⟨w1, w2, w3, w4, w5, w6, w7, w8, w9, w10⟩ := id vm
  obtain ⟨-, s1⟩ := v9 k hk
  obtain ⟨u1, u2, u3, u4, u5⟩ := (w9 k hk).1 hb
  obtain ⟨-, -, g⟩ := I.2.2.2.2.2.2.2.1 k hb
  have e1 : inb (nI k) 64 = true := x_in (by omega) (by omega)
  have e2 : (nI k).toNatClampNeg = k := x_cl (by omega)
  unfold f11_ofAsk f9_look
  rw [e1, e2, x_gd, x_gd, x_gd, x_gd, x_gd, x_gd, x_gd, x_lt, u1, s1 0 (by omega), s1 2 (by omega), s1 3 (by omega), s1 4 (by omega), s1 5 (by omega), s1 6 (by omega), s1 7 (by omega)]
  rcases g with g | g | g | g
  · obtain ⟨g0, g2, g3, g4, g5, g6, g7⟩ := g
    rw [g0, g2, g3, g4, g5, g6, g7]
    simp only [if_true, if_neg (show ¬ (0 : Int32) = 1 by decide), if_neg (show ¬ (0 : Int32) = 2 by decide)]
    repeat' split
    all_goals rfl
  · obtain ⟨g0, -, g5, g6, g7⟩ := g
    obtain ⟨r1, r2, r3⟩ := u3 g0
    rw [g0, g5, g6, g7, r1, r2, r3]
    simp only [if_true, if_neg (show ¬ (1 : Int32) = 0 by decide), if_neg (show ¬ (1 : Int32) = 2 by decide)]
    repeat' split
    all_goals rfl
  · obtain ⟨g0, g3, g4⟩ := g
    obtain ⟨r1, r2, r3, r4⟩ := u4 g0
    rw [g0, g3, g4, r1, r2, r3, r4]
    simp only [if_true, if_neg (show ¬ (2 : Int32) = 0 by decide), if_neg (show ¬ (2 : Int32) = 1 by decide)]
    repeat' split
    all_goals rfl
  · obtain ⟨g0, g3, g4, g5, g6, g7⟩ := g
    have r1 := u5 g0
    rw [g0, g3, g4, g5, g6, g7, r1]
    simp only [if_neg (show ¬ (3 : Int32) = 0 by decide), if_neg (show ¬ (3 : Int32) = 1 by decide), if_neg (show ¬ (3 : Int32) = 2 by decide)]
    repeat' split
    all_goals rfl
end Fates
