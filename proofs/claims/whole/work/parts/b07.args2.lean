section Args2
variable {K1 K2 : Ly} {n r u m l a b kd s f p : Nat} {h1 h2 : Hp} {t : Nat → Int32}
/-- the highest node met -/
def HN (r m hi : Nat) (h1 h2 : Hp) : Prop := hi ≤ 99 ∧ h1.1 r 11 = nI hi ∧ (h2.1 m 20 = nI hi ∨ (h2.1 m 20 = -1 ∧ hi = 0))
/-- behind an argument; w: it was a word -/
def AR (r u m : Nat) (t : Nat → Int32) (l s b f : Nat) (h1 h2 : Hp) (i k : Nat) (x : Int32) (w : Bool) (hi : Nat) (G : Prop) (h1' h2' : Hp) : Prop := ∃ a' b' kd' f' p', LnS r u m t l a' b' kd' s f' p' h1' h2' ∧ b < b' ∧ (f' = 0 → f = 0 ∧ G ∧ h2'.1 m 21 = h2.1 m 21) ∧ h1'.1 (r + 21) i = x ∧ (∀ q, q ≠ i → h1'.1 (r + 21) q = h1.1 (r + 21) q) ∧ ((w = false ∨ f' = 0) → h2'.1 (m + 10) k = x) ∧ (∀ q, q ≠ k → h2'.1 (m + 10) q = h2.1 (m + 10) q) ∧ HN r m hi h1' h2' ∧ FrA r h1 h1' ∧ ChM RTa m h2 h2'
def RfO (r m b : Nat) (h1 h2 : Hp) (E1 : Option Hp) (E2 : Option (Int32 × Hp)) : Prop := ∃ h1' h2', E1 = some h1' ∧ E2 = some (0, h2') ∧ Rfs r m b h1' h2' ∧ FrA r h1 h1' ∧ ChM RTa m h2 h2'
theorem arg_num (ku : K1 u = some (.inr (1, 600))) (ne : r ≠ u) (nu : u ≠ r + 21) (hn : 5000 ≤ n) (L : LnS r u m t l a b kd s f p h1 h2) {hi : Nat} (hh : HN r m hi h1 h2) {c i k sh fu : Nat} {vb lo hi' : Int32} (okf : Nat → Bool) (hi4 : i < 4) (hk4 : k < 4) (hsl : i < es_len.getD sh 0) (hsn : es_len.getD sh 0 ≤ 4) (hsch : sch sh (nI i) = nI c) (hc : c < 119)
    (hcan : ∀ (v : Nat) (H : Hp), v ≤ 99 → H.1 r 10 = nI v → f5_canBe K1 n r (nI c) H = some ((if okf v = true then 1 else 0), H))
    (hmod : ∀ v : Nat, v ≤ 99 → (okf v = true ↔ ¬ f11_in (nI v) lo hi' = 0)) :
    RfO r m b h1 h2 (f5_readLine_L55 K1 n r vb sh (fu + 1) (nI i) h1) (f11_take K2 n m (nI k) lo hi' h2) ∨ ∃ v h1' h2', v ≤ 99 ∧ f5_readLine_L55 K1 n r vb sh (fu + 1) (nI i) h1 = f5_readLine_L55 K1 n r vb sh fu (nI (i + 1)) h1' ∧ f11_take K2 n m (nI k) lo hi' h2 = some (1, h2') ∧ AR r u m t l s b f h1 h2 i k (nI v) false hi (okf v = true) h1' h2' := by
  rcases num_arg (K1 := K1) (K2 := K2) (vb := vb) (fu := fu) (lo := lo) (hi := hi') (but := -1) (k := k) ku ne nu hn L okf false hi4 hk4 hsl hsn hsch hc (fun v H h1 h2 _ => by rw [hcan v H h1 h2, if_neg (show ¬ false = true by decide)]) (fun v hv => by rw [hmod v hv]; exact ⟨fun z => ⟨z, by rw [x_nm1 (by omega)]; exact fun hh => hh⟩, fun z => z.1⟩) with ⟨h1', h2', g1, g2, g3, g4, g5⟩ | ⟨v, a', b', kd', f', p', h1', h2', g0, g1, g2, g3, g4, g5, g6, g7, g8, g9, g10, g11, g12, g13, g14⟩
  · refine Or.inl ⟨h1', h2', g1, ?_, g3, g4, g5⟩
    unfold f11_take
    rw [g2, x_bd, show isB (0 : Int32) = true by decide, x_gd]
  · refine Or.inr ⟨v, h1', h2', g0, g1, ?_, a', b', kd', f', p', g3, g4, fun h0 => ⟨(g5 h0).1, (g5 h0).2, by rw [g10, if_pos (g5 h0).2]⟩, g6, g7, fun _ => g8, g9, ⟨hh.1, by rw [g11, if_neg (show ¬ false = true by decide)]; exact hh.2.1, by rw [g12]; exact hh.2.2⟩, g13, g14⟩
    unfold f11_take
    rw [g2, x_bd, show isB (1 : Int32) = true by decide, x_gd]
theorem LnS.m20 {w : Int32} (L : LnS r u m t l a b kd s f p h1 h2) : LnS r u m t l a b kd s f p h1 (sI h2 m 20 w) := by
  obtain ⟨⟨⟨v1, v2, v3, v4, v5, v6, v7, v8, v9⟩, t9, t11, hba, k4, t8, t12, tz, tl, tw, tv⟩, ⟨f1, f2, f3, f4, f5, f6, f7⟩⟩ := L
  refine ⟨⟨⟨v1, v2, v3, v4, v5, by rw [rI_n (by omega)]; exact v6, fun i hi => by rw [rI_n (by omega)]; exact v7 i hi, v8, by rw [rI_n (by omega)]; exact v9⟩, t9, by rw [rI_n (by omega)]; exact t11, hba, k4, t8, by rw [rI_n (by omega)]; exact t12, tz, tl, fun hk => ?_, fun hk => ?_⟩, ⟨f1, f2, f3, f4, by rw [rI_n (by omega)]; exact f5, f6, fun h0 => by rw [rI_n (by omega)]; exact f7 h0⟩⟩
  · rw [rI_l]; exact tw hk
  · rw [rI_n (by omega)]; exact tv hk
theorem arg_node (ku : K1 u = some (.inr (1, 600))) (ne : r ≠ u) (nu : u ≠ r + 21) (hn : 5000 ≤ n) (L : LnS r u m t l a b kd s f p h1 h2) {hi : Nat} (hh : HN r m hi h1 h2) {c i k sh fu : Nat} {vb but : Int32} (okf : Nat → Bool) (hi4 : i < 4) (hk4 : k < 4) (hsl : i < es_len.getD sh 0) (hsn : es_len.getD sh 0 ≤ 4) (hsch : sch sh (nI i) = nI c) (hc : c < 119)
    (hcan : ∀ (v : Nat) (H : Hp), v ≤ 99 → H.1 r 10 = nI v → (i ≠ 0 → H.1 (r + 21) 0 = h1.1 (r + 21) 0) → f5_canBe K1 n r (nI c) H = some ((if okf v = true then 1 else 0), sI H r 11 (jmax (H.1 r 11) (nI v))))
    (hmod : ∀ v : Nat, v ≤ 99 → (okf v = true ↔ (v < 6 ∧ ¬ nI v = but))) :
    RfO r m b h1 h2 (f5_readLine_L55 K1 n r vb sh (fu + 1) (nI i) h1) (f11_takeNode K2 n m (nI k) but h2) ∨ ∃ v h1' h2', v ≤ 99 ∧ f5_readLine_L55 K1 n r vb sh (fu + 1) (nI i) h1 = f5_readLine_L55 K1 n r vb sh fu (nI (i + 1)) h1' ∧ f11_takeNode K2 n m (nI k) but h2 = some (1, h2') ∧ AR r u m t l s b f h1 h2 i k (nI v) false (max hi v) (okf v = true) h1' h2' := by
  have i5 : ∀ v : Nat, v ≤ 99 → f11_in (nI v) (0 : Int32) (5 : Int32) = if v < 6 then 1 else 0 := fun v hv => by
    have := m_inQ (k := v) (q := 5) (by omega) (by omega)
    rw [show f11_in (nI v) (0 : Int32) (5 : Int32) = if v ≤ 5 then 1 else 0 from this]
    by_cases h5 : v ≤ 5
    · rw [if_pos h5, if_pos (by omega)]
    · rw [if_neg h5, if_neg (by omega)]
  rcases num_arg (K1 := K1) (K2 := K2) (vb := vb) (fu := fu) (lo := 0) (hi := 5) (but := but) (k := k) ku ne nu hn L okf true hi4 hk4 hsl hsn hsch hc (fun v H h1 h2 h3 => by rw [hcan v H h1 h2 h3, if_pos rfl]) (fun v hv => by
    rw [hmod v hv, i5 v hv]
    by_cases h6 : v < 6
    · rw [if_pos h6]; exact ⟨fun z => ⟨b_10, z.2⟩, fun z => ⟨h6, z.2⟩⟩
    · rw [if_neg h6]; exact ⟨fun z => absurd z.1 h6, fun z => absurd rfl z.1⟩) with ⟨h1', h2', g1, g2, g3, g4, g5⟩ | ⟨v, a', b', kd', f', p', h1', h2', g0, g1, g2, g3, g4, g5, g6, g7, g8, g9, g10, g11, g12, g13, g14⟩
  · refine Or.inl ⟨h1', h2', g1, ?_, g3, g4, g5⟩
    unfold f11_takeNode
    rw [g2, x_bd, if_pos rfl]
  · have gr : f11_greater (h2.1 m 20) (nI v) = nI (max hi v) := by
      unfold f11_greater
      rcases hh.2.2 with e | ⟨e, e0⟩
      · rw [e]
        simp only [x_le (show hi < 2147483648 by have := hh.1; omega) (show v < 2147483648 by omega)]
        by_cases hc : hi ≤ v
        · rw [if_pos hc]; congr 1; omega
        · rw [if_neg hc]; congr 1; omega
      · rw [e, if_pos (show (-1 : Int32) ≤ nI v from by
          refine Int32.le_iff_toInt_le.mpr ?_
          rw [nI_toInt (by omega)]
          have : Int32.toInt (-1) = -1 := rfl
          omega), e0, show max 0 v = v by omega]
    have jm : jmax (h1.1 r 11) (nI v) = nI (max hi v) := by
      have := hh.1
      unfold jmax
      rw [hh.2.1]
      simp only [x_lt' (show hi < 2147483648 by omega) (show v < 2147483648 by omega)]
      by_cases hc : hi < v
      · rw [if_pos hc]; congr 1; omega
      · rw [if_neg hc]; congr 1; omega
    have ch : ChM RTa m h2 (sI h2' m 20 (nI (max hi v))) := ChM.F (by decide) g14
    refine Or.inr ⟨v, h1', sI h2' m 20 (nI (max hi v)), g0, g1, ?_, a', b', kd', f', p', g3.m20, g4, fun h0 => ⟨(g5 h0).1, (g5 h0).2, by rw [rI_n (by omega), g10, if_pos (g5 h0).2]⟩, g6, g7, fun _ => by rw [rI_n (by omega)]; exact g8, fun q hq => by rw [rI_n (by omega)]; exact g9 q hq, ⟨by have := hh.1; omega, by rw [g11, if_pos rfl, jm], Or.inl rI_e⟩, g13, ch⟩
    unfold f11_takeNode
    rw [g2, x_bd, if_neg b_10, x_in hk4 (by omega), x_gd, x_lt, x_cl (by omega), g12, g8, gr]
/-- a word stands behind a verb -/
theorem arg_word (ku : K1 u = some (.inr (1, 600))) (ne : r ≠ u) (nu : u ≠ r + 21) (hn : 5000 ≤ n) (L : LnS r u m t l a b kd s f p h1 h2) {hi : Nat} (hh : HN r m hi h1 h2) {i k sh fu : Nat} {vb : Int32} (hi4 : i < 4) (hk4 : k < 4) (hsl : i < es_len.getD sh 0) (hsn : es_len.getD sh 0 ≤ 4) (hsch : sch sh (nI i) = 119) :
    RfO r m b h1 h2 (f5_readLine_L55 K1 n r vb sh (fu + 1) (nI i) h1) (f11_takeName K2 n m (nI k) h2) ∨ ∃ (x : Int32) (h1' h2' : Hp), f5_readLine_L55 K1 n r vb sh (fu + 1) (nI i) h1 = f5_readLine_L55 K1 n r vb sh fu (nI (i + 1)) h1' ∧ f11_takeName K2 n m (nI k) h2 = some (1, h2') ∧ AR r u m t l s b f h1 h2 i k x true hi (∃ w, 0 < w ∧ w < 531441 ∧ x = nI w) h1' h2' := by
  obtain ⟨T, F⟩ := L
  obtain ⟨V, t9, t11, hba, k4, t8, t12, tz, tl, tw, tv⟩ := id T
  have l6 := V.1
  have al := V.2.1
  have bl := T.bl
  have sl : ¬ slen sh ≤ nI i := by
    show ¬ nI (es_len.getD sh 0) ≤ nI i
    exact nI_ge hsl (by omega)
  have e4 : ¬ (4 : Int32) ≤ nI i := by rw [l_4]; exact nI_ge hi4 (by omega)
  have kk : (nI kd = (1 : Int32)) = (kd = 1) := x_eq (ab := 1) (by omega) (by omega)
  have cs : f5_readLine_L55 K1 n r vb sh (fu + 1) (nI i) h1 = f5_readLine_J95 K1 n (f5_readLine_L55 K1 n r vb sh fu) r vb sh (nI i) 119 (nI kd) 1 h1 := by
    rw [f5_readLine_L55, if_neg sl, if_neg e4, x_in hsl (by omega), x_gd, x_lt, hsch, t8, if_pos rfl]
  rw [cs]
  unfold f5_readLine_J95 f11_takeName
  rw [t12]
  simp only [kk, mk_2 k4]
  by_cases h1d : kd = 1
  · refine Or.inr ?_
    obtain ⟨hL, w1, w2⟩ := tw h1d
    have hlt := tl (by omega)
    obtain ⟨x, hx⟩ : ∃ x, x = h1.1 r 10 := ⟨_, rfl⟩
    have can : f5_canBe K1 n r (119 : Int32) (sI h1 (r + 21) i x) = some ((if a - b ≤ 4 then 1 else 0), sI h1 (r + 21) i x) := by
      unfold f5_canBe f5_canBe_J273
      simp only [show ¬ (119 : Int32) = 99 by decide, show ¬ (119 : Int32) = 100 by decide, show ¬ (119 : Int32) = 101 by decide, show ¬ (119 : Int32) = 102 by decide, show ¬ (119 : Int32) = 103 by decide, show ¬ (119 : Int32) = 104 by decide, show ¬ (119 : Int32) = 105 by decide, show ¬ (119 : Int32) = 106 by decide, show ¬ (119 : Int32) = 107 by decide, show ¬ (119 : Int32) = 108 by decide, show ¬ (119 : Int32) = 109 by decide, show ¬ (119 : Int32) = 110 by decide, show ¬ (119 : Int32) = 111 by decide, show ¬ (119 : Int32) = 112 by decide, show ¬ (119 : Int32) = 113 by decide, show ¬ (119 : Int32) = 114 by decide, show ¬ (119 : Int32) = 115 by decide, show ¬ (119 : Int32) = 116 by decide, if_false]
      rw [rI_n (by omega), w1]
      by_cases h4 : a - b ≤ 4
      · have wl := (wN_lt (t := t) (b := b) (a - b) (fun q q1 q2 => hL q q1 (by omega))).1
        have p4 : 27 ^ (a - b) ≤ 27 ^ 4 := Nat.pow_le_pow_right (by omega) h4
        rw [if_pos h4, if_neg (show ¬ nI (wN t b (a - b)) = (-1 : Int32) by rw [x_nm1 (by omega)]; exact fun hh => hh), if_pos h4]
      · rw [if_neg h4, if_pos rfl, if_neg h4]
    have sb : nI a - nI b = nI (a - b) := pk_sub hba
    have s4 : (nI (a - b) ≤ (4 : Int32)) = (a - b ≤ 4) := x_le (ab := 4) (by omega) (by omega)
    rw [if_pos h1d, if_pos h1d, x_in hi4 (by omega), x_gd, x_lt, x_cl (by omega), ← hx, can, x_bd, V.2.2.2.2.2.2.2.2, t11, sb]
    simp only [s4]
    have fP : FrA r h1 (sI h1 (r + 21) i x) := FrA.P FrA.rf
    have gQ : ∀ q, (sI h1 (r + 21) i x).1 (r + 21) q = if q = i then x else h1.1 (r + 21) q := fun q => by
      by_cases hqi : q = i
      · rw [hqi, rI_e, if_pos rfl]
      · rw [rI_n (by omega), if_neg hqi]
    have nb : ∀ (H : Hp), ∃ y, f11_numberOf K2 n (h2.2.1 m 14) H = some y ∧ (a - b ≤ 4 → y = x) := fun H => by
      by_cases h4 : a - b ≤ 4
      · refine ⟨x, ?_, fun _ => rfl⟩
        rw [w2, if_pos (by omega), numb (by omega) h4 (by omega) (fun q q1 q2 => hL q q1 (by omega)), hx, w1, if_pos h4]
      · exact ⟨_, numb_eq _ (by omega), fun hh => absurd hh h4⟩
    by_cases h4 : a - b ≤ 4
    · rw [if_pos h4, if_neg b_10, if_pos h4]
      obtain ⟨y, n1, n2⟩ := nb h2
      have yx := n2 h4
      subst yx
      have Q2 : ChM RTa m h2 (sI h2 (m + 10) k y) := ChM.A (by omega) (by decide) ChM.rf
      have F' : FL r m s f p b (sI h1 (r + 21) i y) (sI h2 (m + 10) k y) := by
        obtain ⟨v1, v2, v3, v4, v5, v6, v7⟩ := F
        refine ⟨by rw [rI_n (by omega)]; exact v1, v2, v3, by rw [rI_n (by omega)]; exact v4, by rw [rI_n (by omega)]; exact v5, fun h0 => by rw [rI_n (by omega)]; exact v6 h0, fun h0 => ?_⟩
        rw [rI_n (by omega), rI_n (by omega)]; exact v7 h0
      obtain ⟨a', b', kd', h1', h2', g1, g2, g3, g4, g5, g6⟩ := both_nx (K1 := K1) (K2 := K2) ku ne hn T (by omega) fP (rI_n (by omega)) Q2 (rI_n (by omega)) nu F' (by omega)
      have wl := wN_lt (t := t) (b := b) (a - b) (fun q q1 q2 => hL q q1 (by omega))
      have p4 : 27 ^ (a - b) ≤ 27 ^ 4 := Nat.pow_le_pow_right (by omega) h4
      refine ⟨y, h1', h2', ?_, ?_, a', b', kd', f, p, g4, g1, fun h0 => ⟨h0, ⟨wN t b (a - b), wl.2 (by omega), by omega, by rw [hx, w1, if_pos h4]⟩, by rw [g6.f (by decide), rI_n (by omega)]⟩, by rw [g5.2 _ _ (by omega), gQ, if_pos rfl], fun q hq => by rw [g5.2 _ _ (by omega), gQ, if_neg hq], fun _ => by rw [g6.a (by omega) (by decide), rI_e], fun q hq => by rw [g6.a (by omega) (by decide), rI_n (by omega)], ⟨hh.1, by rw [g5.2 _ _ (by omega), rI_n (by omega)]; exact hh.2.1, by rw [g6.f (by decide), rI_n (by omega)]; exact hh.2.2⟩, fP.tr g5.up, Q2.tr (RTk.up g6)⟩
      · rw [f5_readLine_J131, g2, x_bp, x_lt, nI_1]
      · unfold f11_takeName_J40
        rw [n1, x_bp, x_in hk4 (by omega), x_gd, x_lt, x_cl (by omega), g3, x_bp]
    · rw [if_neg h4, if_pos rfl, if_neg h4]
      have F0 : FL r m s f p b (sI h1 (r + 21) i x) h2 := by
        obtain ⟨v1, v2, v3, v4, v5, v6, v7⟩ := F
        refine ⟨by rw [rI_n (by omega)]; exact v1, v2, v3, by rw [rI_n (by omega)]; exact v4, v5, fun h0 => by rw [rI_n (by omega)]; exact v6 h0, fun h0 => ?_⟩
        rw [rI_n (by omega)]; exact v7 h0
      obtain ⟨f', p', P', Q', m1, m2, m3, m4, m5, m6, m7⟩ := both_mark (K1 := K1) (K2 := K2) (n := n) (q := 2) (Or.inl rfl) (show b < 2147483648 by omega) F0
      obtain ⟨y, n1, -⟩ := nb (sI Q' m 21 0)
      have fP' : FrA r h1 P' := fP.tr ⟨m5, fun a k h1 h2 => m6 a k (by omega)⟩
      have Q3 : ChM RTa m h2 (sI (sI Q' m 21 0) (m + 10) k y) := ChM.A (by omega) (by decide) (ChM.F (by decide) (m7.up (by decide)))
      have F3 : FL r m s f' p' (b + 1) P' (sI (sI Q' m 21 0) (m + 10) k y) := by
        obtain ⟨v1, v2, v3, v4, v5, v6, v7⟩ := m3
        exact ⟨v1, v2, v3, v4, by rw [rI_n (by omega), rI_n (by omega)]; exact v5, v6, fun h0 => by rw [rI_n (by omega), rI_n (by omega)]; exact v7 h0⟩
      obtain ⟨a', b', kd', h1', h2', g1, g2, g3, g4, g5, g6⟩ := both_nx (K1 := K1) (K2 := K2) ku ne hn T (by omega) fP' (by rw [m6 _ _ (by omega)]; exact rI_n (by omega)) Q3 (by rw [rI_n (by omega), rI_n (by omega), m7.f (by decide)]) nu F3 (Nat.le_refl _)
      refine ⟨x, h1', h2', ?_, ?_, a', b', kd', f', p', g4, g1, fun h0 => absurd h0 m4, by rw [g5.2 _ _ (by omega), m6 _ _ (by omega), gQ, if_pos rfl], fun q hq => by rw [g5.2 _ _ (by omega), m6 _ _ (by omega), gQ, if_neg hq], fun hh => hh.elim (fun hh => by cases hh) (fun hh => absurd hh m4), fun q hq => by rw [g6.a (by omega) (by decide), rI_n (by omega), rI_n (by omega), m7.a (by omega) (by decide)], ⟨hh.1, by rw [g5.2 _ _ (by omega), m6 _ _ (by omega), rI_n (by omega)]; exact hh.2.1, by rw [g6.f (by decide), rI_n (by omega), rI_n (by omega), m7.f (by decide)]; exact hh.2.2⟩, fP'.tr g5.up, Q3.tr (RTk.up g6)⟩
      · have m1 : f5_mark K1 n r (2 : Int32) (nI b) (sI h1 (r + 21) i x) = some P' := m1
        rw [rI_n (by omega), t9, m1, x_bp, f5_readLine_J131, g2, x_bp, x_lt, nI_1]
      · have m2 : f11_addsFault K2 n m (2 : Int32) (nI b) h2 = some Q' := m2
        have q14 : (sI Q' m 21 0).2.1 m 14 = h2.2.1 m 14 := by
          show Q'.2.1 m 14 = h2.2.1 m 14
          exact (m7 m 14 (by rw [rm_f]; decide)).2.1
        unfold f11_takeName_J40
        rw [m2, x_bp, x_lt, q14, n1, x_bp, x_in hk4 (by omega), x_gd, x_lt, x_cl (by omega), g3, x_bp]
  · refine Or.inl ?_
    obtain ⟨h1', h2', g1, g2, g3, g4, g5⟩ := both_ref (K1 := K1) (K2 := K2) (n := n) T
    refine ⟨h1', h2', ?_, ?_, g3, g4, g5⟩
    · rw [if_neg h1d, g1, x_bp]
    · rw [if_neg h1d, g2, x_bd, show isB (0 : Int32) = true by decide, x_gd]
end Args2
