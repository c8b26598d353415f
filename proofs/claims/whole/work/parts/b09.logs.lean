/-! reading: the head of a line; the lines of a log -/
def LO (r u m : Nat) (t : Nat → Int32) (l s b : Nat) (D : Nat → Nat → Hp → Hp → Prop) (r2 : Int32 → Hp → Option (Int32 × Hp)) (h1 h2 : Hp) (E1 : Option Hp) (E2 : Option (Int32 × Hp)) : Prop :=
  (∃ b' h1' h2', E1 = some h1' ∧ E2 = r2 0 h2' ∧ Rfs r m b' h1' h2' ∧ FrL r h1 h1' ∧ ChM RTl m h2 h2') ∨
  (∃ a' b' kd' f' p' hi' h1' h2', E1 = some h1' ∧ E2 = r2 1 h2' ∧ LnS r u m t l a' b' kd' s f' p' h1' h2' ∧ b < b' ∧ HN r m hi' h1' h2' ∧ D hi' f' h1' h2' ∧ FrL r h1 h1' ∧ ChM RTl m h2 h2')
section Head
variable {K1 K2 : Ly} {n r u m l a b kd s f p : Nat} {h1 h2 h1' h2' : Hp} {t : Nat → Int32}
theorem both_head (ku : K1 u = some (.inr (1, 600))) (ne : r ≠ u) (nu : u ≠ r + 21) (hn : 5000 ≤ n) (L : LnS r u m t l a b kd s f p h1 h2) (k0 : kd ≠ 0) {A B : Prop} [Decidable A] [Decidable B] (hAB : f = 0 → (A ↔ B)) : ∃ a' b' kd' f' p' P Q h1' h2', (if A then f5_mark K1 n r (3 : Int32) (nI b) h1 else some h1) = some P ∧ f5_step K1 n r P = some h1' ∧ (if B then f11_addsFault K2 n m (3 : Int32) (nI b) h2 else some h2) = some Q ∧ f11_token K2 n m Q = some h2' ∧ LnS r u m t l a' b' kd' s f' p' h1' h2' ∧ b < b' ∧ (f' = 0 → f = 0 ∧ ¬ A) ∧ h1'.2 = h1.2 ∧ (∀ a k, ¬ (a = r ∧ 7 ≤ k ∧ k ≤ 13 ∧ k ≠ 11) → h1'.1 a k = h1.1 a k) ∧ ChM [109, 111, 112, 113, 114, 116, 117] m h2 h2' := by
  have bl := L.1.bl
  have l6 := L.1.1.1
  obtain ⟨f', p', P, Q, g1, g2, g3, g4, g5, g6, g7⟩ := both_full (K1 := K1) (K2 := K2) (n := n) (show b < 2147483648 by omega) L.2 hAB
  obtain ⟨a', b', kd', h1', h2', e1, e2, e3, e4, e5, e6⟩ := both_nx (K1 := K1) (K2 := K2) (p1 := P) (p2 := Q) ku ne hn L.1 k0 ⟨g5, fun a k h1 h2 => g6 a k (by omega)⟩ (g6 _ _ (by omega)) (g7.up (by decide)) (g7.f (by decide)) nu g3 (Nat.le_refl _)
  exact ⟨a', b', kd', f', p', P, Q, h1', h2', g1, e2, g2, e3, e4, e1, g4, e5.1.trans g5, fun a k hk => by rw [e5.2 a k (by omega), g6 a k (by omega)], (g7.up (by decide)).tr (e6.up (by decide))⟩
/-- the class's line begins with a verb -/
theorem c_head {vb : Nat} {A : Prop} [Decidable A] (hv : vb < 13) (hA : (f5_isOneTooMany r (nI vb) h1 = 0) ↔ ¬ A) (h9 : h1.1 r 9 = nI b) : f5_readLine_J16 K1 n r (nI vb) h1 = (bp (if A then f5_mark K1 n r (3 : Int32) (nI b) h1 else some h1) fun h9 => f5_readLine_J44 K1 n r (nI vb) h9) := by
  unfold f5_readLine_J16
  rw [if_neg (show ¬ nI vb = (-1 : Int32) by rw [x_nm1 (by omega)]; exact fun hh => hh), h9]
  by_cases hc : A
  · rw [if_neg (fun hh => (hA.mp hh) hc), if_pos hc]
  · rw [if_pos (hA.mpr hc), if_neg hc, x_bp]
theorem HN.kp {hi : Nat} (v : HN r m hi h1 h2) (e1 : h1'.1 r 11 = h1.1 r 11) (e2 : h2'.1 m 20 = h2.1 m 20) : HN r m hi h1' h2' := ⟨v.1, by rw [e1]; exact v.2.1, by rw [e2]; exact v.2.2⟩
end Head
def LG (r m f : Nat) (h1 h2 : Hp) : Prop := ∃ q, q ≤ 8 ∧ h2.1 (m + 9) 0 = nI q ∧ (f = 0 → vL (r + 18) h1 q (fun p => h2.1 (m + 9) p) ∧ lOk q (fun p => h2.1 (m + 9) p))
section Logs
variable {K1 K2 : Ly} {n r u m l a b kd f p hi : Nat} {h1 h2 : Hp} {t : Nat → Int32}
/-- a fact is told -/
theorem c_addFact {q : Nat} {x y : Int32} (hq : q < 8) (e : h1.1 (r + 18) 0 = nI q) : f4_add K1 n (r + 18) x y h1 = some (sI (sI (sI h1 (r + 18 + 1) q x) (r + 18 + 2) q y) (r + 18) 0 (nI (q + 1))) := by
  have e1 : ¬ (8 : Int32) ≤ nI q := by rw [l_8]; exact nI_ge hq (by omega)
  have i1 : inb (nI q) 8 = true := x_in hq (by omega)
  have i2 : (nI q).toNatClampNeg = q := x_cl (by omega)
  unfold f4_add
  rw [e, if_neg e1, i1, x_gd, x_lt, i2, rI_n (by omega), e, i1, x_gd, x_lt, i2, rI_n (by omega), rI_n (by omega), e, x_lt, nI_1]
/-- the end of a fact's line: the reference keeps it, then both sides look for the sign -/
theorem log_end (ku : K1 u = some (.inr (1, 600))) (ne : r ≠ u) (nu : u ≠ r + 21) (hu : ¬ (r + 1 ≤ u ∧ u ≤ r + 20)) (hn : 5000 ≤ n) (L : LnS r u m t l a b kd 2 f p h1 h2) (hh : HN r m hi h1 h2) {q : Nat} (hq : q ≤ 8) (h0 : h2.1 (m + 9) 0 = nI q) {vb : Nat} (hvb : vb = 11 ∨ vb = 12)
    (D : f = 0 → q < 8 ∧ vL (r + 18) h1 q (fun p => h2.1 (m + 9) p) ∧ lOk q (fun p => h2.1 (m + 9) p) ∧ h2.1 (m + 10) 0 = h1.1 (r + 21) 0 ∧ h2.1 (m + 10) 1 = (if vb = 11 then h1.1 (r + 21) 1 else -1) ∧ (∃ x, x < 60 ∧ h1.1 (r + 21) 0 = nI x) ∧ (h2.1 (m + 10) 1 = -1 ∨ ∃ y, y ≤ 99 ∧ h2.1 (m + 10) 1 = nI y)) (r2 : Int32 → Hp → Option (Int32 × Hp)) :
    LO r u m t l 2 b (fun _ f => LG r m f) r2 h1 h2 (f5_readLine_J141 K1 n r (nI vb) h1) (bd (f11_logLine_J72 K2 n m h2) fun y h => f11_allLines_J77 K2 n r2 m 2 y h) := by
  obtain ⟨g2, e1, c1, z1, z2, z3⟩ := m_keepRow (K2 := K2) (n := n) (m := m) (c := 0) (fr := 1) (w := 2) (mo := 8) (q := q) (by omega) (by omega) (by omega) (by omega) hq (by omega) hn h2 h0
  have e1 : f11_keepRow K2 n m (0 : Int32) (1 : Int32) (2 : Int32) (8 : Int32) h2 = some g2 := e1
  unfold f11_logLine_J72
  rw [e1, x_bp, x_bd]
  have L2 := L.k2 c1 (by decide)
  have H2 : HN r m hi h1 g2 := hh.kp rfl (c1.f (by decide))
  rcases both_le (K1 := K1) (K2 := K2) ku ne nu hn L2 (vb := nI vb) (S := 2) r2 with ⟨p1, p2, w1, w2, w3, w4, w5⟩ | ⟨a', b', kd', p1, p2, w1, w2, w3, w4, w5, w6⟩
  · exact Or.inl ⟨b, p1, p2, w1, w2, w3, w4.up, (c1.up (by decide)).tr (w5.up (by decide))⟩
  · refine Or.inr ?_
    have H3 : HN r m hi p1 p2 := H2.kp (w5.2 _ _ (by omega)) (w6.f (by decide))
    have row : ∀ p, p2.1 (m + 9) p = g2.1 (m + 9) p := fun p => w6.a (by omega) (by decide) p
    by_cases f0 : f = 0
    · obtain ⟨d1, d2, d3, d4, d5, d6, d7⟩ := D f0
      have part : ∀ k, p1.1 (r + 21) k = h1.1 (r + 21) k := fun k => w5.2 _ _ (by omega)
      have e18 : p1.1 (r + 18) 0 = nI q := by rw [w5.2 _ _ (by omega)]; exact d2.1
      have s6 : p1.1 r 6 = nI 2 := w3.2.1
      obtain ⟨y, hy⟩ : ∃ y : Int32, y = if vb = 11 then h1.1 (r + 21) 1 else -1 := ⟨_, rfl⟩
      have tl : f5_tell K1 n r (nI vb) p1 = some (sI (sI (sI p1 (r + 18 + 1) q (h1.1 (r + 21) 0)) (r + 18 + 2) q y) (r + 18) 0 (nI (q + 1))) := by
        have z : ∀ k : Nat, k < 6 → ¬ nI vb = nI k := fun k hk => by rw [x_eq (by omega) (by omega)]; omega
        have z11 : (nI vb = (11 : Int32)) = (vb = 11) := x_eq (ab := 11) (by omega) (by omega)
        unfold f5_tell f5_tell_J256
        rw [if_neg (show ¬ nI vb = (0 : Int32) from z 0 (by omega)), if_neg (show ¬ nI vb = (1 : Int32) from z 1 (by omega)), if_neg (show ¬ nI vb = (2 : Int32) from z 2 (by omega)), if_neg (show ¬ nI vb = (3 : Int32) from z 3 (by omega)), if_neg (show ¬ nI vb = (4 : Int32) from z 4 (by omega)), if_neg (show ¬ nI vb = (5 : Int32) from z 5 (by omega)), s6, if_neg (show ¬ nI 2 = (1 : Int32) by decide), show (0 : Int32).toNatClampNeg = 0 from rfl, show (1 : Int32).toNatClampNeg = 1 from rfl, part, part]
        simp only [z11]
        by_cases hv : vb = 11
        · rw [if_pos hv, c_addFact d1 e18, x_bp, hy, if_pos hv]
        · rw [if_neg hv, c_addFact d1 e18, x_bp, hy, if_neg hv]
      have lr0 : p2.1 (m + 9) (1 + 2 * q) = h1.1 (r + 21) 0 := by
        have := z2 d1 0 (by omega)
        rw [row, show 1 + 2 * q = 1 + 2 * q + 0 by omega, this, d4]
      have lr1 : p2.1 (m + 9) (2 + 2 * q) = y := by
        have := z2 d1 1 (by omega)
        rw [row, show 2 + 2 * q = 1 + 2 * q + 1 by omega, this, d5, hy]
      have lro : ∀ i, i < q → p2.1 (m + 9) (1 + 2 * i) = h2.1 (m + 9) (1 + 2 * i) ∧ p2.1 (m + 9) (2 + 2 * i) = h2.1 (m + 9) (2 + 2 * i) := fun i hi => by
        rw [row, row, z3 _ (by omega) (by omega), z3 _ (by omega) (by omega)]; exact ⟨rfl, rfl⟩
      refine ⟨a', b', kd', f, p, hi, sI (sI (sI p1 (r + 18 + 1) q (h1.1 (r + 21) 0)) (r + 18 + 2) q y) (r + 18) 0 (nI (q + 1)), p2, ?_, w2, w3.k1 rfl (fun a k ha => by rw [rI_n (by omega), rI_n (by omega), rI_n (by omega)]) hu, w4, H3.kp (by rw [rI_n (by omega), rI_n (by omega), rI_n (by omega)]) rfl, ⟨q + 1, by omega, by rw [row, z1, show min 8 (q + 1) = q + 1 by omega], fun _ => ⟨⟨rI_e, fun i hi => ?_⟩, by omega, fun i hi => ?_⟩⟩, ?_, (c1.up (by decide)).tr (w6.up (by decide))⟩
      · rw [w1, if_pos f0, tl, x_bp]
      · by_cases hiq : i = q
        · subst hiq
          rw [rI_n (by omega), rI_n (by omega), rI_e, rI_n (by omega), rI_e]
          exact ⟨lr0.symm, lr1.symm⟩
        · rw [rI_n (by omega), rI_n (by omega), rI_n (by omega), rI_n (by omega), rI_n (by omega), rI_n (by omega), w5.2 _ _ (by omega), w5.2 _ _ (by omega)]
          obtain ⟨u1, u2⟩ := d2.2 i (by omega)
          exact ⟨u1.trans (lro i (by omega)).1.symm, u2.trans (lro i (by omega)).2.symm⟩
      · by_cases hiq : i = q
        · subst hiq
          refine ⟨?_, ?_⟩
          · obtain ⟨x, x1, x2⟩ := d6
            exact ⟨x, x1, lr0.trans x2⟩
          · have : p2.1 (m + 9) (2 + 2 * i) = h2.1 (m + 10) 1 := by rw [lr1, hy, d5]
            show p2.1 (m + 9) (2 + 2 * i) = -1 ∨ _
            rw [this]
            rcases d7 with d7 | ⟨z, z1, z2⟩
            · exact Or.inl d7
            · exact Or.inr ⟨z, z1, by show p2.1 (m + 9) (2 + 2 * i) = nI z; rw [this]; exact z2⟩
        · obtain ⟨⟨x, x1, x2⟩, o2⟩ := d3.2 i (by omega)
          have o := lro i (by omega)
          refine ⟨⟨x, x1, o.1.trans x2⟩, ?_⟩
          rcases o2 with o2 | ⟨z, z1, z2⟩
          · exact Or.inl (o.2.trans o2)
          · exact Or.inr ⟨z, z1, o.2.trans z2⟩
      · exact w5.up.up.tr ⟨rfl, fun a k ha => by rw [rI_n (by omega), rI_n (by omega), rI_n (by omega)]⟩
    · refine ⟨a', b', kd', f, p, hi, p1, p2, by rw [w1, if_neg f0], w2, w3, w4, H3, ⟨min 8 (q + 1), by omega, by rw [row, z1], fun hh => absurd hh f0⟩, w5.up.up, (c1.up (by decide)).tr (w6.up (by decide))⟩
end Logs
