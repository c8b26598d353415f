section Token
variable {K1 K2 : Ly} {n r u m l a : Nat} {h1 h2 : Hp} {t : Nat → Int32}
/-- a token is taken, on both sides -/
theorem both_tok (ku : K1 u = some (.inr (1, 600))) (ne : r ≠ u) (hn : 5000 ≤ n) (v : TP r u m t l a h1 h2) : ∃ a' b kd h1' h2', a ≤ b ∧ f5_step K1 n r h1 = some h1' ∧ f11_token K2 n m h2 = some h2' ∧ TR r u m t l a' b kd h1' h2' ∧ FrC r h1 h1' ∧ ChM RTk m h2 h2' := by
  have l6 := v.1
  have al := v.2.1
  obtain ⟨b, p1, p2, hab, c1, m1, V, f1, f2⟩ := both_ws (K1 := K1) (K2 := K2) (n := n) ku ne (l - a) a n n h1 h2 (by omega) (by omega) (by omega) v
  obtain ⟨v1, v2, v3, v4, v5, v6, v7, v8, v9⟩ := id V
  have c9 : FrC r p1 (sI p1 r 9 (nI b)) := FrC.F (by omega) FrC.rf
  have m11 : ChM RTk m p2 (sI p2 m 11 (nI b)) := ChM.F (by decide) ChM.rf
  have V9 := V.mv ne v2 c9 m11 (by rw [rI_n (by omega)]; exact v8) (by rw [rI_n (by omega)]; exact v9)
  have m14 : ChM RTk m p2 (sL (sI p2 m 11 (nI b)) m 14 0) := ChM.LF (by decide) m11
  have V14 := V.mv ne v2 c9 m14 (by rw [rI_n (by omega)]; exact v8) (by rw [rL_i, rI_n (by omega)]; exact v9)
  have see := m_see (K2 := K2) (n := n) V9
  have ms : f11_token K2 n m h2 = if 0 ≤ (if b < l then nI (cz (t b)) else -1) then (if (f11_in (if b < l then nI (cz (t b)) else -1) (97 : Int32) (122 : Int32)) = 0 then (if (f11_in (if b < l then nI (cz (t b)) else -1) (48 : Int32) (57 : Int32)) = 0 then (lt (sI (sL (sI p2 m 11 (nI b)) m 14 0) m 9 (nI (b + 1))) fun h14 => f11_token_J263 K2 n m (if (if b < l then nI (cz (t b)) else -1) = (59 : Int32) then (4 : Int32) else (1 : Int32)) h14) else (lt (sI (sL (sI p2 m 11 (nI b)) m 14 0) m 13 (0 : Int32)) fun h16 => f11_token_L163 K2 n m n (0 : Int32) h16)) else f11_token_L74 K2 n m n (0 : Int32) (sL (sI p2 m 11 (nI b)) m 14 0)) else (lt (sI (sL (sI p2 m 11 (nI b)) m 14 0) m 12 (0 : Int32)) fun h17 => some h17) := by
    unfold f11_token
    rw [m1, mtl, x_lt, v9, see, x_bp, x_lt, rL_i, rI_n (by omega), v9, nI_1]
  have cs0 : f5_step K1 n r h1 = f5_step_J52 K1 n r p1 := c1
  rw [cs0, ms]
  by_cases hbl : b < l
  · have bt := v3 b hbl
    have cl := cz_lt bt
    have e0 : (0 : Int32) ≤ nI (cz (t b)) := nI_pos' (by omega)
    rw [if_pos hbl, if_pos e0, m_in2L cl, m_in2D cl]
    have e1 : nI b < nI l := nI_lt hbl (by omega)
    have r7 : (sI p1 r 9 (nI b)).1 r 7 = nI b := by rw [rI_n (by omega)]; exact v8
    have r5 : (sI p1 r 9 (nI b)).1 r 5 = nI l := by rw [rI_n (by omega)]; exact v5
    have ru : (sI p1 r 9 (nI b)).1 u b = t b := by rw [rI_n (by omega)]; exact (v7 b hbl).1
    have rr : (sI p1 r 9 (nI b)).2.2 r 4 = some u := v4
    have q59 : (t b = (59 : Int32)) = (cz (t b) = 59) := cz_eq bt (k := 59) (by omega)
    have p59 : (nI (cz (t b)) = (59 : Int32)) = (cz (t b) = 59) := x_eq (ab := 59) (by omega) (by omega)
    have cs : f5_step_J52 K1 n r p1 = if (if 97 ≤ cz (t b) ∧ cz (t b) ≤ 122 then (1 : Int32) else 0) = 0 then (if (if 48 ≤ cz (t b) ∧ cz (t b) ≤ 57 then (1 : Int32) else 0) = 0 then f5_step_J143 K1 n r r (if cz (t b) = 59 then (3 : Int32) else (4 : Int32)) (sI p1 r 9 (nI b)) else (bp (f5_takeNumber K1 n r (sI p1 r 9 (nI b))) fun h20 => some h20)) else (bp (f5_takeWord K1 n r (sI p1 r 9 (nI b))) fun h22 => some h22) := by
      unfold f5_step_J52
      rw [x_lt, v8, r7, r5, if_pos e1, rr, x_oa ku, x_in (show b < 600 by omega) (by omega), x_gd, x_cl (by omega), ru, cz_L bt, x_oa ku, x_in (show b < 600 by omega) (by omega), x_gd, ru, cz_D bt, x_oa ku, x_in (show b < 600 by omega) (by omega), x_gd, ru]
      simp only [q59]
    rw [cs]
    simp only [p59]
    by_cases hL : 97 ≤ cz (t b) ∧ cz (t b) ≤ 122
    · rw [if_pos hL, if_neg b_10, if_neg b_10]
      have d1 : FrC r p1 (sI (sI (sI p1 r 9 (nI b)) r 8 1) r 10 0) := FrC.F (by omega) (FrC.F (by omega) c9)
      have W := V.mv ne v2 d1 m14 (by rw [rI_n (by omega), rI_n (by omega), rI_n (by omega)]; exact v8) (by rw [rL_i, rI_n (by omega)]; exact v9)
      obtain ⟨e, q1, q2, g1, g2, g3, g4, g5, g6, g7, g8, g9, g10, g11, g12, g13, g14⟩ := both_word (K1 := K1) (K2 := K2) (n := n) ku ne (b := b) (l - b) b n n _ _ (by omega) (by omega) (by omega) (Nat.le_refl _) W (fun q h1 h2 => by omega) (by rw [rI_n (by omega), rI_n (by omega), rI_e]) (by rw [rI_e, Nat.sub_self, if_pos (by omega)]; rfl) (fun _ => by rw [rL_e, Nat.sub_self]; rfl)
      rw [Nat.sub_self] at g3
      have g3 : f11_token_L74 K2 n m n 0 (sL (sI p2 m 11 (nI b)) m 14 0) = some q2 := g3
      have hbe := g14 hbl hL
      have k8 : q1.1 r 8 = nI 1 := by rw [g9, rI_n (by omega), rI_e]; rfl
      have k11 : q2.1 m 11 = nI b := by rw [g11, rL_i, rI_e]
      refine ⟨e, b, 1, q1, q2, hab, ?_, g3, ⟨g4, g10, k11, g1, by omega, k8, g8, fun hh => absurd hh (by omega), fun _ => hbe, fun _ => ⟨g5, g6, g7⟩, fun hh => absurd hh (by omega)⟩, f1.tr (d1.tr g12), f2.tr (m14.tr g13)⟩
      unfold f5_takeWord
      rw [x_lt, x_lt, g2, x_bp]
    · rw [if_neg hL, if_pos rfl, if_pos rfl]
      by_cases hD : 48 ≤ cz (t b) ∧ cz (t b) ≤ 57
      · rw [if_pos hD, if_neg b_10, if_neg b_10, x_lt]
        have d1 : FrC r p1 (sI (sI p1 r 9 (nI b)) r 10 0) := FrC.F (by omega) c9
        have d2 : ChM RTk m p2 (sI (sL (sI p2 m 11 (nI b)) m 14 0) m 13 0) := ChM.F (by decide) m14
        have W := V.mv ne v2 d1 d2 (by rw [rI_n (by omega), rI_n (by omega)]; exact v8) (by rw [rI_n (by omega), rL_i, rI_n (by omega)]; exact v9)
        obtain ⟨e, w, q1, q2, g1, g2, g3, g4, g5, g6, g7, g8, g9, g10, g11, g12, g13⟩ := both_num (K1 := K1) (K2 := K2) (n := n) ku ne (b := b) (l - b) b n n 0 _ _ (by omega) (by omega) (by omega) (Nat.le_refl _) W (by rw [rI_n (by omega), rI_e]) (fun _ => rfl) (fun hh => by omega) (by omega) (by rw [rI_e, Nat.sub_self, if_pos (by omega)]; rfl) (by rw [rI_e]; rfl)
        rw [Nat.sub_self] at g4
        have g4 : f11_token_L163 K2 n m n 0 (sI (sL (sI p2 m 11 (nI b)) m 14 0) m 13 0) = some q2 := g4
        have hbe := g13 hbl hD
        have k11 : q2.1 m 11 = nI b := by rw [g10, rI_n (by omega), rL_i, rI_e]
        have cn : f5_takeNumber K1 n r (sI p1 r 9 (nI b)) = some q1 := by
          unfold f5_takeNumber
          rw [x_lt, g3]
        rw [cn, x_bp, g4]
        by_cases he : e - b ≤ 2
        · rw [if_pos he] at g6 g7
          exact ⟨e, b, 2, q1, q2, hab, rfl, rfl, ⟨g5, g9, k11, g1, by omega, g6, g7, fun hh => absurd hh (by omega), fun _ => hbe, fun hh => absurd hh (by omega), fun _ => ⟨w, g2, g8 he⟩⟩, f1.tr (d1.tr g11), f2.tr (d2.tr g12)⟩
        · rw [if_neg he] at g6 g7
          exact ⟨e, b, 4, q1, q2, hab, rfl, rfl, ⟨g5, g9, k11, g1, by omega, g6, g7, fun hh => absurd hh (by omega), fun _ => hbe, fun hh => absurd hh (by omega), fun hh => absurd hh (by omega)⟩, f1.tr (d1.tr g11), f2.tr (d2.tr g12)⟩
      · rw [if_neg hD, if_pos rfl, if_pos rfl, x_lt]
        have d1 : ∀ w : Int32, FrC r p1 (sI (sI (sI p1 r 9 (nI b)) r 8 w) r 7 (nI (b + 1))) := fun w => FrC.F (by omega) (FrC.F (by omega) c9)
        have d2 : ∀ w : Int32, ChM RTk m p2 (sI (sI (sL (sI p2 m 11 (nI b)) m 14 0) m 9 (nI (b + 1))) m 12 w) := fun w => ChM.F (by decide) (ChM.F (by decide) m14)
        have cJ : ∀ w : Int32, f5_step_J143 K1 n r r w (sI p1 r 9 (nI b)) = some (sI (sI (sI p1 r 9 (nI b)) r 8 w) r 7 (nI (b + 1))) := fun w => by
          unfold f5_step_J143
          rw [x_lt, x_lt, rI_n (by omega), r7, nI_1]
        have mJ : ∀ w : Int32, f11_token_J263 K2 n m w (sI (sL (sI p2 m 11 (nI b)) m 14 0) m 9 (nI (b + 1))) = some (sI (sI (sL (sI p2 m 11 (nI b)) m 14 0) m 9 (nI (b + 1))) m 12 w) := fun w => rfl
        have fin : ∀ kd, (kd = 3 ∨ kd = 4) → TR r u m t l (b + 1) b kd (sI (sI (sI p1 r 9 (nI b)) r 8 (nI kd)) r 7 (nI (b + 1))) (sI (sI (sL (sI p2 m 11 (nI b)) m 14 0) m 9 (nI (b + 1))) m 12 (mk kd)) := fun kd hk =>
          ⟨V.mv ne (show b + 1 ≤ l by omega) (d1 _) (d2 _) rI_e (by rw [rI_n (by omega), rI_e]), by rw [rI_n (by omega), rI_n (by omega), rI_e], by rw [rI_n (by omega), rI_n (by omega), rL_i, rI_e], by omega, by omega, by rw [rI_n (by omega), rI_e], rI_e, fun hh => absurd hh (by omega), fun _ => by omega, fun hh => absurd hh (by omega), fun hh => absurd hh (by omega)⟩
        by_cases h59 : cz (t b) = 59
        · rw [if_pos h59, if_pos h59, cJ, mJ]
          exact ⟨b + 1, b, 3, _, _, hab, rfl, rfl, fin 3 (Or.inl rfl), f1.tr (d1 _), f2.tr (d2 _)⟩
        · rw [if_neg h59, if_neg h59, cJ, mJ]
          exact ⟨b + 1, b, 4, _, _, hab, rfl, rfl, fin 4 (Or.inr rfl), f1.tr (d1 _), f2.tr (d2 _)⟩
  · rw [if_neg hbl, if_neg (show ¬ (0 : Int32) ≤ -1 by decide), x_lt]
    have e1 : ¬ nI b < nI l := nI_nlt (by omega) (by omega)
    have d1 : FrC r p1 (sI (sI p1 r 9 (nI b)) r 8 0) := FrC.F (by omega) c9
    have d2 : ChM RTk m p2 (sI (sL (sI p2 m 11 (nI b)) m 14 0) m 12 0) := ChM.F (by decide) m14
    refine ⟨b, b, 0, _, _, hab, ?_, rfl, ⟨V.mv ne v2 d1 d2 (by rw [rI_n (by omega), rI_n (by omega)]; exact v8) (by rw [rI_n (by omega), rL_i, rI_n (by omega)]; exact v9), by rw [rI_n (by omega), rI_e], by rw [rI_n (by omega), rL_i, rI_e], Nat.le_refl _, by omega, by rw [rI_e]; rfl, by rw [rI_e]; rfl, fun _ => by omega, fun hh => absurd rfl hh, fun hh => absurd hh (by omega), fun hh => absurd hh (by omega)⟩, f1.tr d1, f2.tr d2⟩
    unfold f5_step_J52
    rw [x_lt, v8, rI_n (by omega), v8, rI_n (by omega), v5, if_neg e1, x_lt]
end Token
