/-! reading: the lines of a run -/
def RGn (r m f : Nat) (h1 h2 : Hp) : Prop := ∃ q, q ≤ 40 ∧ h2.1 (m + 9) 0 = nI q ∧ (f = 0 → vR (r + 14) h1 q (fun p => h2.1 (m + 9) p) ∧ rOk q (fun p => h2.1 (m + 9) p))
section Runs
variable {K1 K2 : Ly} {n r u m l a b kd f p hi : Nat} {h1 h2 : Hp} {t : Nat → Int32}
theorem c_addDeed {q : Nat} {x y z : Int32} (hq : q < 40) (e : h1.1 (r + 14) 0 = nI q) : f3_add K1 n (r + 14) x y z h1 = some (sI (sI (sI (sI h1 (r + 14 + 1) q x) (r + 14 + 2) q y) (r + 14 + 3) q z) (r + 14) 0 (nI (q + 1))) := by
  have e1 : ¬ (40 : Int32) ≤ nI q := by rw [l_40]; exact nI_ge hq (by omega)
  have i1 : inb (nI q) 40 = true := x_in hq (by omega)
  have i2 : (nI q).toNatClampNeg = q := x_cl (by omega)
  unfold f3_add
  rw [e, if_neg e1, i1, x_gd, x_lt, i2, rI_n (by omega), e, i1, x_gd, x_lt, i2, rI_n (by omega), rI_n (by omega), e, i1, x_gd, x_lt, i2, rI_n (by omega), rI_n (by omega), rI_n (by omega), e, x_lt, nI_1]
theorem run_end (ku : K1 u = some (.inr (1, 600))) (ne : r ≠ u) (nu : u ≠ r + 21) (hu : ¬ (r + 1 ≤ u ∧ u ≤ r + 20)) (hn : 5000 ≤ n) (L : LnS r u m t l a b kd 1 f p h1 h2) (hh : HN r m hi h1 h2) {q : Nat} (hq : q ≤ 40) (h0 : h2.1 (m + 9) 0 = nI q) {vb : Nat} (hvb : 6 ≤ vb ∧ vb ≤ 10)
    (D : f = 0 → q < 40 ∧ vR (r + 14) h1 q (fun p => h2.1 (m + 9) p) ∧ rOk q (fun p => h2.1 (m + 9) p) ∧ h2.1 (m + 10) 1 = h1.1 (r + 21) 0 ∧ h2.1 (m + 10) 2 = (if vb = 8 then -1 else h1.1 (r + 21) 1) ∧ (((vb = 6 ∨ vb = 7) ∧ (∃ x, x < 6 ∧ h1.1 (r + 21) 0 = nI x) ∧ ∃ y, 0 < y ∧ y < 531441 ∧ h1.1 (r + 21) 1 = nI y) ∨ (vb = 8 ∧ ∃ x, 1 ≤ x ∧ x ≤ 20 ∧ h1.1 (r + 21) 0 = nI x) ∨ ((vb = 9 ∨ vb = 10) ∧ (∃ x, x < 6 ∧ h1.1 (r + 21) 0 = nI x) ∧ ∃ y, y < 6 ∧ h1.1 (r + 21) 1 = nI y))) (r2 : Int32 → Hp → Option (Int32 × Hp)) :
    LO r u m t l 1 b (fun _ f => RGn r m f) r2 h1 h2 (f5_readLine_J141 K1 n r (nI vb) h1) (bd (f11_runLine_J105 K2 n m (nI (vb - 6)) h2) fun y h => f11_allLines_J77 K2 n r2 m 1 y h) := by
  have c0 : ChM [9, 10] m h2 (sI h2 (m + 10) 0 (nI (vb - 6))) := ChM.A (by omega) (by simp) ChM.rf
  obtain ⟨g2, e1, c1, z1, z2, z3⟩ := m_keepRow (K2 := K2) (n := n) (m := m) (c := 0) (fr := 1) (w := 3) (mo := 40) (q := q) (by omega) (by omega) (by omega) (by omega) hq (by omega) hn (sI h2 (m + 10) 0 (nI (vb - 6))) (by rw [rI_n (by omega)]; exact h0)
  have e1 : f11_keepRow K2 n m (0 : Int32) (1 : Int32) (3 : Int32) (40 : Int32) (sI h2 (m + 10) 0 (nI (vb - 6))) = some g2 := e1
  have J : f11_runLine_J105 K2 n m (nI (vb - 6)) h2 = some (1, g2) := by
    unfold f11_runLine_J105
    rw [x_lt, show (0 : Int32).toNatClampNeg = 0 from rfl, e1, x_bp]
  rw [J, x_bd]
  have c1 : ChM [9, 10] m h2 g2 := c0.tr (c1.up (by decide))
  have L2 := L.k2 c1 (by decide)
  have H2 : HN r m hi h1 g2 := hh.kp rfl (c1.f (by decide))
  rcases both_le (K1 := K1) (K2 := K2) ku ne nu hn L2 (vb := nI vb) (S := 1) r2 with ⟨p1, p2, w1, w2, w3, w4, w5⟩ | ⟨a', b', kd', p1, p2, w1, w2, w3, w4, w5, w6⟩
  · exact Or.inl ⟨b, p1, p2, w1, w2, w3, w4.up, (c1.up (by decide)).tr (w5.up (by decide))⟩
  · refine Or.inr ?_
    have H3 : HN r m hi p1 p2 := H2.kp (w5.2 _ _ (by omega)) (w6.f (by decide))
    have row : ∀ p, p2.1 (m + 9) p = g2.1 (m + 9) p := fun p => w6.a (by omega) (by decide) p
    by_cases f0 : f = 0
    · obtain ⟨d1, d2, d3, d4, d5, d6⟩ := D f0
      have part : ∀ k, p1.1 (r + 21) k = h1.1 (r + 21) k := fun k => w5.2 _ _ (by omega)
      have e14 : p1.1 (r + 14) 0 = nI q := by rw [w5.2 _ _ (by omega)]; exact d2.1
      have s6 : p1.1 r 6 = nI 1 := w3.2.1
      obtain ⟨y, hy⟩ : ∃ y : Int32, y = if vb = 8 then -1 else h1.1 (r + 21) 1 := ⟨_, rfl⟩
      have tl : f5_tell K1 n r (nI vb) p1 = some (sI (sI (sI (sI p1 (r + 14 + 1) q (nI (vb - 6))) (r + 14 + 2) q (h1.1 (r + 21) 0)) (r + 14 + 3) q y) (r + 14) 0 (nI (q + 1))) := by
        have z : ∀ k : Nat, k < 6 → ¬ nI vb = nI k := fun k hk => by rw [x_eq (by omega) (by omega)]; omega
        have zs : nI vb - (6 : Int32) = nI (vb - 6) := by rw [l_6]; exact pk_sub hvb.1
        have z2' : (nI (vb - 6) = (2 : Int32)) = (vb - 6 = 2) := x_eq (ab := 2) (by omega) (by omega)
        unfold f5_tell f5_tell_J224
        rw [if_neg (show ¬ nI vb = (0 : Int32) from z 0 (by omega)), if_neg (show ¬ nI vb = (1 : Int32) from z 1 (by omega)), if_neg (show ¬ nI vb = (2 : Int32) from z 2 (by omega)), if_neg (show ¬ nI vb = (3 : Int32) from z 3 (by omega)), if_neg (show ¬ nI vb = (4 : Int32) from z 4 (by omega)), if_neg (show ¬ nI vb = (5 : Int32) from z 5 (by omega)), s6, if_pos (show nI 1 = (1 : Int32) from rfl), x_lt, zs, show (0 : Int32).toNatClampNeg = 0 from rfl, show (1 : Int32).toNatClampNeg = 1 from rfl, part, part]
        simp only [z2']
        by_cases hv : vb = 8
        · rw [if_pos (by omega), c_addDeed d1 e14, x_bp, hy, if_pos hv]
        · rw [if_neg (by omega), c_addDeed d1 e14, x_bp, hy, if_neg hv]
      have lr0 : p2.1 (m + 9) (1 + 3 * q) = nI (vb - 6) := by
        have := z2 d1 0 (by omega)
        rw [row, show 1 + 3 * q = 1 + 3 * q + 0 by omega, this, rI_e]
      have lr1 : p2.1 (m + 9) (2 + 3 * q) = h1.1 (r + 21) 0 := by
        have := z2 d1 1 (by omega)
        rw [row, show 2 + 3 * q = 1 + 3 * q + 1 by omega, this, rI_n (by omega), d4]
      have lr2 : p2.1 (m + 9) (3 + 3 * q) = y := by
        have := z2 d1 2 (by omega)
        rw [row, show 3 + 3 * q = 1 + 3 * q + 2 by omega, this, rI_n (by omega), d5, hy]
      have lro : ∀ i, i < q → p2.1 (m + 9) (1 + 3 * i) = h2.1 (m + 9) (1 + 3 * i) ∧ p2.1 (m + 9) (2 + 3 * i) = h2.1 (m + 9) (2 + 3 * i) ∧ p2.1 (m + 9) (3 + 3 * i) = h2.1 (m + 9) (3 + 3 * i) := fun i hi => by
        rw [row, row, row, z3 _ (by omega) (by omega), z3 _ (by omega) (by omega), z3 _ (by omega) (by omega), rI_n (by omega), rI_n (by omega), rI_n (by omega)]; exact ⟨rfl, rfl, rfl⟩
      refine ⟨a', b', kd', f, p, hi, sI (sI (sI (sI p1 (r + 14 + 1) q (nI (vb - 6))) (r + 14 + 2) q (h1.1 (r + 21) 0)) (r + 14 + 3) q y) (r + 14) 0 (nI (q + 1)), p2, ?_, w2, w3.k1 rfl (fun a k ha => by rw [rI_n (by omega), rI_n (by omega), rI_n (by omega), rI_n (by omega)]) hu, w4, H3.kp (by rw [rI_n (by omega), rI_n (by omega), rI_n (by omega), rI_n (by omega)]) rfl, ⟨q + 1, by omega, by rw [row, z1, show min 40 (q + 1) = q + 1 by omega], fun _ => ⟨⟨rI_e, fun i hi => ?_⟩, by omega, fun i hi => ?_⟩⟩, ?_, (c1.up (by decide)).tr (w6.up (by decide))⟩
      · rw [w1, if_pos f0, tl, x_bp]
      · by_cases hiq : i = q
        · subst hiq
          refine ⟨?_, ?_, ?_⟩
          · rw [rI_n (by omega), rI_n (by omega), rI_n (by omega), rI_e]; exact lr0.symm
          · rw [rI_n (by omega), rI_n (by omega), rI_e]; exact lr1.symm
          · rw [rI_n (by omega), rI_e]; exact lr2.symm
        · obtain ⟨u1, u2, u3⟩ := d2.2 i (by omega)
          obtain ⟨o1, o2, o3⟩ := lro i (by omega)
          refine ⟨?_, ?_, ?_⟩
          · rw [rI_n (by omega), rI_n (by omega), rI_n (by omega), rI_n (by omega), w5.2 _ _ (by omega)]; exact u1.trans o1.symm
          · rw [rI_n (by omega), rI_n (by omega), rI_n (by omega), rI_n (by omega), w5.2 _ _ (by omega)]; exact u2.trans o2.symm
          · rw [rI_n (by omega), rI_n (by omega), rI_n (by omega), rI_n (by omega), w5.2 _ _ (by omega)]; exact u3.trans o3.symm
      · by_cases hiq : i = q
        · subst hiq
          simp only [lr0, lr1, lr2]
          rcases d6 with ⟨hv, x1, x2⟩ | ⟨hv, x1⟩ | ⟨hv, x1, x2⟩
          · refine Or.inl ⟨?_, x1, ?_⟩
            · rcases hv with rfl | rfl
              · exact Or.inl rfl
              · exact Or.inr rfl
            · rw [hy, if_neg (by omega)]; exact x2
          · refine Or.inr (Or.inl ⟨?_, x1⟩)
            rw [hv]; rfl
          · refine Or.inr (Or.inr ⟨?_, x1, ?_⟩)
            · rcases hv with rfl | rfl
              · exact Or.inl rfl
              · exact Or.inr rfl
            · rw [hy, if_neg (by omega)]; exact x2
        · obtain ⟨o1, o2, o3⟩ := lro i (by omega)
          have := d3.2 i (by omega)
          simp only [o1, o2, o3]
          exact this
      · exact w5.up.up.tr ⟨rfl, fun a k ha => by rw [rI_n (by omega), rI_n (by omega), rI_n (by omega), rI_n (by omega)]⟩
    · refine ⟨a', b', kd', f, p, hi, p1, p2, by rw [w1, if_neg f0], w2, w3, w4, H3, ⟨min 40 (q + 1), by omega, by rw [row, z1], fun hh => absurd hh f0⟩, w5.up.up, (c1.up (by decide)).tr (w6.up (by decide))⟩
end Runs
