theorem wB_lt {t : Nat → Int32} {b : Nat} : ∀ k, (∀ i, b ≤ i → i < b + k → 97 ≤ cz (t i) ∧ cz (t i) ≤ 122) → wB t b k < 256 ^ k := by
  intro k
  induction k with
  | zero => intro _; simp [wB]
  | succ k ih =>
    intro h
    have i1 := ih (fun i h1 h2 => h i h1 (by omega))
    obtain ⟨c1, c2⟩ := h (b + k) (by omega) (by omega)
    have p := Nat.pow_succ (n := 256) (m := k)
    rw [wB, p]; omega
section Toks
variable {K1 K2 : Ly} {n r u m l a : Nat} {h1 h2 h1' h2' : Hp} {t : Nat → Int32}
theorem m_in2L {y : Nat} (hy : y < 256) : f11_in (nI y) (97 : Int32) (122 : Int32) = if 97 ≤ y ∧ y ≤ 122 then 1 else 0 := m_inR (lo := 97) (hi := 122) (by omega) (by omega) (by omega)
theorem m_in2D {y : Nat} (hy : y < 256) : f11_in (nI y) (48 : Int32) (57 : Int32) = if 48 ≤ y ∧ y ≤ 57 then 1 else 0 := m_inR (lo := 48) (hi := 57) (by omega) (by omega) (by omega)
/-- the letters of a word, one by one -/
theorem both_word (ku : K1 u = some (.inr (1, 600))) (ne : r ≠ u) {b : Nat} : ∀ (d i fu fu' : Nat) (h1 h2 : Hp), i + d = l → d < fu → d < fu' → b ≤ i → TP r u m t l i h1 h2 → (∀ q, b ≤ q → q < i → 97 ≤ cz (t q) ∧ cz (t q) ≤ 122) → h1.1 r 9 = nI b → h1.1 r 10 = (if i - b ≤ 4 then nI (wN t b (i - b)) else -1) → (i - b ≤ 8 → h2.2.1 m 14 = lN (wB t b (i - b))) → ∃ e h1' h2', i ≤ e ∧ f5_takeWord_L10 K1 n r fu h1 = some h1' ∧ f11_token_L74 K2 n m fu' (nI (i - b)) h2 = some h2' ∧ TP r u m t l e h1' h2' ∧ (∀ q, b ≤ q → q < e → 97 ≤ cz (t q) ∧ cz (t q) ≤ 122) ∧ h1'.1 r 10 = (if e - b ≤ 4 then nI (wN t b (e - b)) else -1) ∧ h2'.2.1 m 14 = (if e - b ≤ 8 then lN (wB t b (e - b)) else 0) ∧ h2'.1 m 12 = 2 ∧ h1'.1 r 8 = h1.1 r 8 ∧ h1'.1 r 9 = nI b ∧ h2'.1 m 11 = h2.1 m 11 ∧ FrC r h1 h1' ∧ ChM RTk m h2 h2' ∧ (i < l → 97 ≤ cz (t i) ∧ cz (t i) ≤ 122 → i < e) := by
  intro d
  induction d with
  | zero =>
    intro i fu fu' h1 h2 hi hf hf' hb v hL h9 h10 h14
    obtain ⟨fu, rfl⟩ : ∃ g, fu = g + 1 := ⟨fu - 1, by omega⟩
    obtain ⟨fu', rfl⟩ : ∃ g, fu' = g + 1 := ⟨fu' - 1, by omega⟩
    have ms := m_see (K2 := K2) (n := n) v
    rw [if_neg (by omega)] at ms
    obtain ⟨v1, v2, v3, v4, v5, v6, v7, v8, v9⟩ := id v
    have e1 : nI l ≤ nI i := nI_le (by omega) (by omega)
    have l8 : (nI (i - b) ≤ (8 : Int32)) = (i - b ≤ 8) := x_le (ab := 8) (by omega) (by omega)
    have ch : ChM RTk m h2 (sI (sL h2 m 14 (if i - b ≤ 8 then h2.2.1 m 14 else 0)) m 12 2) := ChM.F (by decide) (ChM.LF (by decide) ChM.rf)
    refine ⟨i, h1, _, Nat.le_refl _, by rw [f5_takeWord_L10, v5, v8, if_pos e1], ?_, v.mv ne v2 FrC.rf ch v8 ?_, hL, h10, ?_, rI_e, rfl, h9, ?_, FrC.rf, ch, fun hh => by omega⟩
    · rw [f11_token_L74, ms, x_bp, show f11_in (-1 : Int32) (97 : Int32) (122 : Int32) = 0 by decide, if_pos rfl, f11_token_J136, x_lt, x_lt]
      simp only [l8]
    · rw [rI_n (by omega)]; exact v9
    · rw [rI_l, rL_e]
      by_cases hc : i - b ≤ 8
      · rw [if_pos hc, if_pos hc, h14 hc]
      · rw [if_neg hc, if_neg hc]
    · rw [rI_n (by omega)]; rfl
  | succ d ih =>
    intro i fu fu' h1 h2 hi hf hf' hb v hL h9 h10 h14
    obtain ⟨fu, rfl⟩ : ∃ g, fu = g + 1 := ⟨fu - 1, by omega⟩
    obtain ⟨fu', rfl⟩ : ∃ g, fu' = g + 1 := ⟨fu' - 1, by omega⟩
    have ms := m_see (K2 := K2) (n := n) v
    rw [if_pos (by omega)] at ms
    obtain ⟨v1, v2, v3, v4, v5, v6, v7, v8, v9⟩ := id v
    have e1 : ¬ nI l ≤ nI i := nI_ge (by omega) (by omega)
    have bt := v3 i (by omega)
    have cl := cz_lt bt
    have l8 : (nI (i - b) ≤ (8 : Int32)) = (i - b ≤ 8) := x_le (ab := 8) (by omega) (by omega)
    have sb : nI i - nI b = nI (i - b) := pk_sub hb
    have l4 : ((4 : Int32) ≤ nI (i - b)) = (4 ≤ i - b) := x_le (aa := 4) (by omega) (by omega)
    by_cases hc : 97 ≤ cz (t i) ∧ cz (t i) ≤ 122
    · have tn : t i = nI (cz (t i)) := cz_nI bt (by omega)
      have wn := (wN_lt (t := t) (b := b) (i - b) (fun q h1 h2 => hL q h1 (by omega))).1
      have wb := wB_lt (t := t) (b := b) (i - b) (fun q h1 h2 => hL q h1 (by omega))
      have wsN : wN t b (i + 1 - b) = 27 * wN t b (i - b) + (cz (t i) - 96) := by
        rw [show i + 1 - b = (i - b) + 1 by omega, wN, show b + (i - b) = i by omega]
      have wsB : wB t b (i + 1 - b) = 256 * wB t b (i - b) + cz (t i) := by
        rw [show i + 1 - b = (i - b) + 1 by omega, wB, show b + (i - b) = i by omega]
      have c1 : FrC r h1 (sI (sI h1 r 10 (if i + 1 - b ≤ 4 then nI (wN t b (i + 1 - b)) else -1)) r 7 (nI (i + 1))) := FrC.F (by omega) (FrC.F (by omega) FrC.rf)
      have c2 : ChM RTk m h2 (sI (sL h2 m 14 ((h2.2.1 m 14 <<< ((8 : Int32).toInt64 &&& 63)) ||| (nI (cz (t i))).toInt64)) m 9 (nI (i + 1))) := ChM.F (by decide) (ChM.LF (by decide) ChM.rf)
      have hL' : ∀ q, b ≤ q → q < i + 1 → 97 ≤ cz (t q) ∧ cz (t q) ≤ 122 := fun q q1 q2 => by
        by_cases hq : q = i
        · rw [hq]; exact hc
        · exact hL q q1 (by omega)
      have v' := v.mv ne (show i + 1 ≤ l by omega) c1 c2 rI_e rI_e
      obtain ⟨e, p1, p2, g1, g2, g3, g4, g5, g6, g7, g8, g9, g10, g11, g12, g13, g14⟩ := ih (i + 1) fu fu' _ _ (by omega) (by omega) (by omega) (by omega) v' hL' (by rw [rI_n (by omega), rI_n (by omega)]; exact h9) (by rw [rI_n (by omega), rI_e]) (fun hk => by
        have h7 : i - b ≤ 7 := by omega
        have p7 : 256 ^ (i - b) ≤ 256 ^ 7 := Nat.pow_le_pow_right (by omega) h7
        rw [rI_l, rL_e, h14 (by omega), w8 (by omega) (by omega), wsB])
      refine ⟨e, p1, p2, by omega, ?_, ?_, g4, g5, g6, g7, g8, by rw [g9, rI_n (by omega), rI_n (by omega)], g10, by rw [g11, rI_n (by omega)]; rfl, c1.tr g12, c2.tr g13, fun _ _ => by omega⟩
      · rw [f5_takeWord_L10, v5, v8, if_neg e1, v4, x_oa ku, x_in (show i < 600 by omega) (by omega), x_gd, x_cl (by omega), (v7 i (by omega)).1, cz_L bt, if_pos hc, if_neg b_10, h9, sb, x_oa ku, x_in (show i < 600 by omega) (by omega), x_gd, (v7 i (by omega)).1, f5_takeWord_J76, f5_takeWord_J76, x_lt, x_lt, x_lt, x_lt, rI_n (by omega), v8, nI_1, rI_n (by omega), v8, nI_1]
        simp only [l4]
        by_cases h4 : 4 ≤ i - b
        · rw [if_pos h4]
          rw [if_neg (show ¬ i + 1 - b ≤ 4 by omega)] at g2
          exact g2
        · rw [if_neg h4, h10, if_pos (by omega)]
          rw [if_pos (show i + 1 - b ≤ 4 by omega), wsN] at g2
          have ev : nI (wN t b (i - b)) * (27 : Int32) + t i - (97 : Int32) + (1 : Int32) = nI (27 * wN t b (i - b) + (cz (t i) - 96)) := by
            have e0 : ∀ c W : Nat, 97 ≤ c → nI W * (27 : Int32) + nI c - (97 : Int32) + (1 : Int32) = nI (27 * W + (c - 96)) := fun c W h => by
              rw [l_27, pk_mul, nI_add, show (97 : Int32) = nI 97 from rfl, pk_sub (by omega), nI_1]
              congr 1
              omega
            have e1 := e0 (cz (t i)) (wN t b (i - b)) hc.1
            rw [← tn] at e1
            exact e1
          rw [ev]; exact g2
      · rw [f11_token_L74, ms, x_bp, m_in2L cl, if_pos hc, if_neg b_10, x_bp, x_lt, x_lt, x_lt, rL_i, v9, nI_1, nI_1, show i - b + 1 = i + 1 - b by omega]
        exact g3
    · have ch : ChM RTk m h2 (sI (sL h2 m 14 (if i - b ≤ 8 then h2.2.1 m 14 else 0)) m 12 2) := ChM.F (by decide) (ChM.LF (by decide) ChM.rf)
      refine ⟨i, h1, _, Nat.le_refl _, ?_, ?_, v.mv ne v2 FrC.rf ch v8 ?_, hL, h10, ?_, rI_e, rfl, h9, ?_, FrC.rf, ch, fun _ hh => absurd hh hc⟩
      · rw [f5_takeWord_L10, v5, v8, if_neg e1, v4, x_oa ku, x_in (show i < 600 by omega) (by omega), x_gd, x_cl (by omega), (v7 i (by omega)).1, cz_L bt, if_neg hc, if_pos rfl]
      · rw [f11_token_L74, ms, x_bp, m_in2L cl, if_neg hc, if_pos rfl, f11_token_J136, x_lt, x_lt]
        simp only [l8]
      · rw [rI_n (by omega)]; exact v9
      · rw [rI_l, rL_e]
        by_cases hc : i - b ≤ 8
        · rw [if_pos hc, if_pos hc, h14 hc]
        · rw [if_neg hc, if_neg hc]
      · rw [rI_n (by omega)]; rfl
/-- the digits of a number, one by one: its value by how many there are -/
theorem both_num (ku : K1 u = some (.inr (1, 600))) (ne : r ≠ u) {b : Nat} : ∀ (d i fu fu' v : Nat) (h1 h2 : Hp), i + d = l → d < fu → d < fu' → b ≤ i → TP r u m t l i h1 h2 → h1.1 r 9 = nI b → (i - b = 0 → v = 0) → (i - b = 1 → v ≤ 9) → v ≤ 99 → h1.1 r 10 = (if i - b ≤ 2 then nI v else -1) → h2.1 m 13 = nI v → ∃ e w h1' h2', i ≤ e ∧ w ≤ 99 ∧ f5_takeNumber_L5 K1 n r fu h1 = some h1' ∧ f11_token_L163 K2 n m fu' (nI (i - b)) h2 = some h2' ∧ TP r u m t l e h1' h2' ∧ h1'.1 r 8 = (if e - b ≤ 2 then 2 else 4) ∧ h2'.1 m 12 = (if e - b ≤ 2 then 3 else 1) ∧ (e - b ≤ 2 → h1'.1 r 10 = nI w ∧ h2'.1 m 13 = nI w) ∧ h1'.1 r 9 = nI b ∧ h2'.1 m 11 = h2.1 m 11 ∧ FrC r h1 h1' ∧ ChM RTk m h2 h2' ∧ (i < l → 48 ≤ cz (t i) ∧ cz (t i) ≤ 57 → i < e) := by
  intro d
  have stop : ∀ (i v : Nat) (h1 h2 : Hp), i ≤ l → b ≤ i → TP r u m t l i h1 h2 → h1.1 r 9 = nI b → v ≤ 99 → h1.1 r 10 = (if i - b ≤ 2 then nI v else -1) → h2.1 m 13 = nI v → ¬ (i < l ∧ 48 ≤ cz (t i) ∧ cz (t i) ≤ 57) → ∃ e w h1' h2', i ≤ e ∧ w ≤ 99 ∧ f5_takeNumber_J85 K1 n r h1 = some h1' ∧ f11_token_J235 K2 n m (if nI (i - b) ≤ (2 : Int32) then (3 : Int32) else (1 : Int32)) h2 = some h2' ∧ TP r u m t l e h1' h2' ∧ h1'.1 r 8 = (if e - b ≤ 2 then 2 else 4) ∧ h2'.1 m 12 = (if e - b ≤ 2 then 3 else 1) ∧ (e - b ≤ 2 → h1'.1 r 10 = nI w ∧ h2'.1 m 13 = nI w) ∧ h1'.1 r 9 = nI b ∧ h2'.1 m 11 = h2.1 m 11 ∧ FrC r h1 h1' ∧ ChM RTk m h2 h2' ∧ (i < l → 48 ≤ cz (t i) ∧ cz (t i) ≤ 57 → i < e) := fun i v h1 h2 hi hb V h9 hv h10 h13 hno => by
    have l6 := V.1
    have l2 : (nI (i - b) ≤ (2 : Int32)) = (i - b ≤ 2) := x_le (ab := 2) (by omega) (by omega)
    have c1 : FrC r h1 (sI h1 r 8 (if i - b ≤ 2 then 2 else 4)) := FrC.F (by omega) FrC.rf
    have c2 : ChM RTk m h2 (sI h2 m 12 (if i - b ≤ 2 then 3 else 1)) := ChM.F (by decide) ChM.rf
    refine ⟨i, v, _, _, Nat.le_refl _, hv, ?_, ?_, V.mv ne hi c1 c2 (by rw [rI_n (by omega)]; exact V.2.2.2.2.2.2.2.1) (by rw [rI_n (by omega)]; exact V.2.2.2.2.2.2.2.2), rI_e, rI_e, fun hk => ⟨by rw [rI_n (by omega), h10, if_pos hk], by rw [rI_n (by omega), h13]⟩, by rw [rI_n (by omega)]; exact h9, by rw [rI_n (by omega)], c1, c2, fun h1 h2 => absurd ⟨h1, h2⟩ hno⟩
    · unfold f5_takeNumber_J85 f5_takeNumber_J99
      rw [h10]
      by_cases hk : i - b ≤ 2
      · rw [if_pos hk, if_neg (show ¬ nI v = (-1 : Int32) by rw [x_nm1 (by omega)]; exact fun hh => hh), if_pos hk, x_lt]
      · rw [if_neg hk, if_pos rfl, if_neg hk, x_lt]
    · unfold f11_token_J235
      simp only [l2]
      rfl
  induction d with
  | zero =>
    intro i fu fu' v h1 h2 hi hf hf' hb V h9 z0 z1 hv h10 h13
    obtain ⟨fu, rfl⟩ : ∃ g, fu = g + 1 := ⟨fu - 1, by omega⟩
    obtain ⟨fu', rfl⟩ : ∃ g, fu' = g + 1 := ⟨fu' - 1, by omega⟩
    have ms := m_see (K2 := K2) (n := n) V
    rw [if_neg (by omega)] at ms
    obtain ⟨v1, v2, v3, v4, v5, v6, v7, v8, v9⟩ := id V
    have e1 : nI l ≤ nI i := nI_le (by omega) (by omega)
    have cs : f5_takeNumber_L5 K1 n r (fu + 1) h1 = f5_takeNumber_J85 K1 n r h1 := by rw [f5_takeNumber_L5, v5, v8, if_pos e1]
    have mm : f11_token_L163 K2 n m (fu' + 1) (nI (i - b)) h2 = f11_token_J235 K2 n m (if nI (i - b) ≤ (2 : Int32) then (3 : Int32) else (1 : Int32)) h2 := by
      rw [f11_token_L163, ms, x_bp, show f11_in (-1 : Int32) (48 : Int32) (57 : Int32) = 0 by decide, if_pos rfl]
    rw [cs, mm]
    exact stop i v h1 h2 v2 hb V h9 hv h10 h13 (by omega)
  | succ d ih =>
    intro i fu fu' v h1 h2 hi hf hf' hb V h9 z0 z1 hv h10 h13
    obtain ⟨fu, rfl⟩ : ∃ g, fu = g + 1 := ⟨fu - 1, by omega⟩
    obtain ⟨fu', rfl⟩ : ∃ g, fu' = g + 1 := ⟨fu' - 1, by omega⟩
    have ms := m_see (K2 := K2) (n := n) V
    rw [if_pos (by omega)] at ms
    obtain ⟨v1, v2, v3, v4, v5, v6, v7, v8, v9⟩ := id V
    have e1 : ¬ nI l ≤ nI i := nI_ge (by omega) (by omega)
    have bt := v3 i (by omega)
    have cl := cz_lt bt
    have sb : nI i - nI b = nI (i - b) := pk_sub hb
    have l2 : ((2 : Int32) ≤ nI (i - b)) = (2 ≤ i - b) := x_le (aa := 2) (by omega) (by omega)
    by_cases hc : 48 ≤ cz (t i) ∧ cz (t i) ≤ 57
    · have tn : t i = nI (cz (t i)) := cz_nI bt (by omega)
      obtain ⟨w, hw⟩ : ∃ w, w = if 2 ≤ i - b then v else 10 * v + (cz (t i) - 48) := ⟨_, rfl⟩
      have w99 : w ≤ 99 := by
        rw [hw]; split
        · exact hv
        · rcases (show i - b = 0 ∨ i - b = 1 by omega) with hk | hk
          · have := z0 hk; omega
          · have := z1 hk; omega
      have w1 : i + 1 - b = 1 → w ≤ 9 := fun hk => by
        have := z0 (by omega)
        rw [hw, if_neg (by omega)]; omega
      have c1 : FrC r h1 (sI (sI h1 r 10 (if i + 1 - b ≤ 2 then nI w else -1)) r 7 (nI (i + 1))) := FrC.F (by omega) (FrC.F (by omega) FrC.rf)
      have c2 : ChM RTk m h2 (sI (sI h2 m 13 (nI w)) m 9 (nI (i + 1))) := ChM.F (by decide) (ChM.F (by decide) ChM.rf)
      have v' := V.mv ne (show i + 1 ≤ l by omega) c1 c2 rI_e rI_e
      obtain ⟨e, w', p1, p2, g1, g2, g3, g4, g5, g6, g7, g8, g9, g10, g11, g12, g13⟩ := ih (i + 1) fu fu' w _ _ (by omega) (by omega) (by omega) (by omega) v' (by rw [rI_n (by omega), rI_n (by omega)]; exact h9) (fun hk => by omega) w1 w99 (by rw [rI_n (by omega), rI_e]) (by rw [rI_n (by omega), rI_e])
      refine ⟨e, w', p1, p2, by omega, g2, ?_, ?_, g5, g6, g7, g8, g9, by rw [g10, rI_n (by omega), rI_n (by omega)], c1.tr g11, c2.tr g12, fun _ _ => by omega⟩
      · rw [f5_takeNumber_L5, v5, v8, if_neg e1, v4, x_oa ku, x_in (show i < 600 by omega) (by omega), x_gd, x_cl (by omega), (v7 i (by omega)).1, cz_D bt, if_pos hc, if_neg b_10, h9, sb, x_oa ku, x_in (show i < 600 by omega) (by omega), x_gd, (v7 i (by omega)).1, f5_takeNumber_J69, f5_takeNumber_J69, x_lt, x_lt, x_lt, x_lt, rI_n (by omega), v8, nI_1, rI_n (by omega), v8, nI_1]
        simp only [l2]
        by_cases h4 : 2 ≤ i - b
        · rw [if_pos h4]
          rw [if_neg (show ¬ i + 1 - b ≤ 2 by omega)] at g3
          exact g3
        · rw [if_neg h4, h10, if_pos (by omega)]
          rw [if_pos (show i + 1 - b ≤ 2 by omega), hw, if_neg h4] at g3
          have ev : nI v * (10 : Int32) + t i - (48 : Int32) = nI (10 * v + (cz (t i) - 48)) := by
            have e0 : ∀ c W : Nat, 48 ≤ c → nI W * (10 : Int32) + nI c - (48 : Int32) = nI (10 * W + (c - 48)) := fun c W h => by
              rw [l_10, pk_mul, nI_add, show (48 : Int32) = nI 48 from rfl, pk_sub (by omega)]
              congr 1
              omega
            have e1 := e0 (cz (t i)) v hc.1
            rw [← tn] at e1
            exact e1
          rw [ev]; exact g3
      · rw [f11_token_L163, ms, x_bp, m_in2D cl, if_pos hc, if_neg b_10, x_bp, f11_token_J205, f11_token_J205, x_lt, x_lt, x_lt, x_lt, x_lt, x_lt, rI_n (by omega), v9, nI_1, rI_n (by omega), v9, nI_1, show i - b + 1 = i + 1 - b by omega, h13]
        simp only [l2]
        by_cases h4 : 2 ≤ i - b
        · rw [if_pos h4]
          rw [hw, if_pos h4] at g4
          exact g4
        · rw [if_neg h4]
          rw [hw, if_neg h4] at g4
          have ev : (10 : Int32) * nI v + nI (cz (t i)) - (48 : Int32) = nI (10 * v + (cz (t i) - 48)) := by
            rw [l_10, pk_mul, nI_add, show (48 : Int32) = nI 48 from rfl, pk_sub (by omega)]
            congr 1
            omega
          rw [ev]; exact g4
    · have cs : f5_takeNumber_L5 K1 n r (fu + 1) h1 = f5_takeNumber_J85 K1 n r h1 := by
        rw [f5_takeNumber_L5, v5, v8, if_neg e1, v4, x_oa ku, x_in (show i < 600 by omega) (by omega), x_gd, x_cl (by omega), (v7 i (by omega)).1, cz_D bt, if_neg hc, if_pos rfl]
      have mm : f11_token_L163 K2 n m (fu' + 1) (nI (i - b)) h2 = f11_token_J235 K2 n m (if nI (i - b) ≤ (2 : Int32) then (3 : Int32) else (1 : Int32)) h2 := by
        rw [f11_token_L163, ms, x_bp, m_in2D cl, if_neg hc, if_pos rfl]
      rw [cs, mm]
      exact stop i v h1 h2 v2 hb V h9 hv h10 h13 (fun hh => hc hh.2)
end Toks
