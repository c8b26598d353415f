section LogL
variable {K1 K2 : Ly} {n r u m l a b kd f p hi : Nat} {h1 h2 : Hp} {t : Nat → Int32}
/-- neither side knows this verb -/
theorem c_noverb {s : Nat} (L : LnS r u m t l a b kd s f p h1 h2) (hk : kd ≠ 1 ∨ f5_verbHere K1 n r h1 = some (-1)) : f5_readLine K1 n r h1 = (bp (f5_refuse K1 n r h1) fun h6 => some h6) := by
  have t8 := L.1.2.2.2.2.2.1
  have k4 := L.1.2.2.2.2.1
  have kk : (nI kd = (1 : Int32)) = (kd = 1) := x_eq (ab := 1) (by omega) (by omega)
  unfold f5_readLine
  rw [t8]
  simp only [kk]
  by_cases h1' : kd = 1
  · rcases hk with hk | hk
    · exact absurd h1' hk
    · rw [if_pos h1', hk, x_bp]
      unfold f5_readLine_J16
      rw [if_pos rfl]
  · rw [if_neg h1']
    unfold f5_readLine_J16
    rw [if_pos rfl]
theorem c_verb {s vb : Nat} (L : LnS r u m t l a b 1 s f p h1 h2) (hv : f5_verbHere K1 n r h1 = some (nI vb)) : f5_readLine K1 n r h1 = f5_readLine_J16 K1 n r (nI vb) h1 := by
  have t8 := L.1.2.2.2.2.2.1
  unfold f5_readLine
  rw [t8, if_pos (show nI 1 = (1 : Int32) from rfl), hv, x_bp]
/-- the word that the reference looks at -/
def mw (h2 : Hp) (m : Nat) : Int64 := if h2.1 m 12 = (2 : Int32) then h2.2.1 m 14 else 0
theorem mw_v {s v : Nat} (L : LnS r u m t l a b kd s f p h1 h2) (hv : v < 13) : (lg_cmp (mw h2 m) (lN (vc v)) = 0) ↔ (kd = 1 ∧ isV' t b (a - b) v) := by
  obtain ⟨⟨V, t9, t11, hba, k4, t8, t12, tz, tl, tw, tv⟩, -⟩ := L
  unfold mw
  rw [t12]
  simp only [mk_2 k4]
  by_cases hk : kd = 1
  · obtain ⟨hL, w1, w2⟩ := tw hk
    rw [if_pos hk, m_verb (t := t) (b := b) (k := a - b) hv (fun i hi => V.2.2.1 (b + i) (by have := V.2.1; omega)) (fun i hi => hL (b + i) (by omega) (by omega)) w2]
    exact ⟨fun hh => ⟨hk, hh⟩, fun hh => hh.2⟩
  · rw [if_neg hk]
    exact ⟨fun hh => absurd hh (m_verb0 hv), fun hh => absurd hh.1 hk⟩
theorem log_line (ku : K1 u = some (.inr (1, 600))) (ne : r ≠ u) (nu : u ≠ r + 21) (hu : ¬ (r + 1 ≤ u ∧ u ≤ r + 20)) (hn : 5000 ≤ n) (L : LnS r u m t l a b kd 2 f p h1 h2) (k0 : kd ≠ 0) (hh : HN r m hi h1 h2) (D : LG r m f h1 h2) (r2 : Int32 → Hp → Option (Int32 × Hp)) :
    LO r u m t l 2 b (fun _ f => LG r m f) r2 h1 h2 (f5_readLine K1 n r h1) (bd (f11_logLine K2 n m (mw h2 m) (nI b) (sI h2 m 21 1)) fun y h => f11_allLines_J77 K2 n r2 m 2 y h) := by
  have c21 : ChM [121] m h2 (sI h2 m 21 1) := ChM.F (by simp) ChM.rf
  have Lg := L.k2 c21 (by decide)
  have T := Lg.1
  have bl := T.bl
  have l6 := T.1.1
  obtain ⟨q, hq, hq0, Dq⟩ := D
  have s6 : h1.1 r 6 = nI 2 := L.2.1
  have c11 : (lg_cmp (mw h2 m) (6778740 : Int64) = 0) ↔ (kd = 1 ∧ isV' t b (a - b) 11) := mw_v L (v := 11) (by omega)
  have c12 : (lg_cmp (mw h2 m) (1819243380 : Int64) = 0) ↔ (kd = 1 ∧ isV' t b (a - b) 12) := mw_v L (v := 12) (by omega)
  have refuse : ¬ (kd = 1 ∧ isV' t b (a - b) 11) → ¬ (kd = 1 ∧ isV' t b (a - b) 12) → (kd ≠ 1 ∨ f5_verbHere K1 n r h1 = some (-1)) → LO r u m t l 2 b (fun _ f => LG r m f) r2 h1 h2 (f5_readLine K1 n r h1) (bd (f11_logLine K2 n m (mw h2 m) (nI b) (sI h2 m 21 1)) fun y h => f11_allLines_J77 K2 n r2 m 2 y h) := fun n1 n2 n3 => by
    obtain ⟨p1, p2, g1, g2, g3, g4, g5⟩ := both_ref (K1 := K1) (K2 := K2) (n := n) T
    refine Or.inl ⟨b, p1, p2, ?_, ?_, g3, g4.up, (c21.up (by decide)).tr (g5.up (by decide))⟩
    · rw [c_noverb L n3, g1, x_bp]
    · unfold f11_logLine
      rw [if_neg (fun hh => n1 (c11.mp hh)), if_neg (fun hh => n2 (c12.mp hh)), g2, x_bd, show isB (0 : Int32) = true by decide, x_gd, x_bd, f11_allLines_J77, if_pos rfl, f11_allLines_J95, if_pos rfl]
  by_cases h1d : kd = 1
  · subst h1d
    obtain ⟨vb, v1, v2, v3⟩ := c_verbL (K1 := K1) ku hn L.1 (s := 2) (lo := 11) (hi := 13) (by omega) s6 rfl rfl (by omega) (by omega)
    cases vb with
    | none => exact refuse (fun hh => v3 rfl 11 (by omega) (by omega) hh.2) (fun hh => v3 rfl 12 (by omega) (by omega) hh.2) (Or.inr v1)
    | some vb =>
      obtain ⟨x1, x2, x3⟩ := v2 vb rfl
      have mJ : f11_logLine K2 n m (mw h2 m) (nI b) (sI h2 m 21 1) = f11_logLine_J21 K2 n m (mw h2 m) (nI b) (sI h2 m 21 1) := by
        unfold f11_logLine
        rcases (show vb = 11 ∨ vb = 12 by omega) with rfl | rfl
        · rw [if_pos (c11.mpr ⟨rfl, x3⟩)]
        · rw [if_pos (c12.mpr ⟨rfl, x3⟩), ite_self]
      have e11 : (lg_cmp (mw h2 m) (6778740 : Int64) = 0) ↔ vb = 11 := by
        rw [c11]
        exact ⟨fun hh => isV_u (by omega) (by omega) x3 hh.2, fun hh => ⟨rfl, by rw [← hh]; exact x3⟩⟩
      have hA : (f5_isOneTooMany r (nI vb) h1 = 0) ↔ ¬ ¬ (h1.1 (r + 18) 0 < (8 : Int32)) := by
        unfold f5_isOneTooMany
        rw [s6, if_neg (show ¬ nI 2 = (1 : Int32) by decide), if_pos (show nI 2 = (2 : Int32) from rfl)]
        by_cases hc : h1.1 (r + 18) 0 < (8 : Int32)
        · rw [if_pos hc]; exact ⟨fun _ hh => hh hc, fun _ => rfl⟩
        · rw [if_neg hc]; exact ⟨fun hh => absurd hh b_10, fun hh => absurd hc hh⟩
      rw [c_verb L v1, c_head (by omega) hA L.1.2.1, mJ]
      have hAB : f = 0 → ((¬ (h1.1 (r + 18) 0 < (8 : Int32))) ↔ ((sI h2 m 21 1).1 (m + 9) (0 : Int32).toNatClampNeg = (8 : Int32))) := fun f0 => by
        have d := (Dq f0).1.1
        have z0 : (sI h2 m 21 1).1 (m + 9) (0 : Int32).toNatClampNeg = nI q := by
          show (sI h2 m 21 1).1 (m + 9) 0 = nI q
          rw [rI_n (by omega)]; exact hq0
        rw [d, z0]
        have e1 : (nI q < (8 : Int32)) = (q < 8) := x_lt' (ab := 8) (by omega) (by omega)
        have e2 : (nI q = (8 : Int32)) = (q = 8) := x_eq (ab := 8) (by omega) (by omega)
        rw [e1, e2]; omega
      obtain ⟨a1, b1, kd1, f1, p1, P, Q, g1, g2, j1, j2, j3, j4, j5, j6, j7, j8, j9, j10⟩ := both_head (K1 := K1) (K2 := K2) ku ne nu hn Lg (by omega) hAB
      rw [j1, x_bp, f5_readLine_J44, j2, x_bp]
      have full : f11_full K2 n m (0 : Int32) (8 : Int32) (nI b) (sI h2 m 21 1) = some Q := by
        unfold f11_full
        rw [show inb (0 : Int32) 122 = true by decide, x_gd, ← j3]
        by_cases hc : (sI h2 m 21 1).1 (m + 9) (0 : Int32).toNatClampNeg = (8 : Int32)
        · rw [if_pos hc, if_pos hc]
          cases f11_addsFault K2 n m (3 : Int32) (nI b) (sI h2 m 21 1) <;> rfl
        · rw [if_neg hc, if_neg hc]
      have chr : ChM [10] m g2 (sI g2 (m + 10) 1 (-1)) := ChM.A (by omega) (by simp) ChM.rf
      have La := j5.k2 chr (by decide)
      have ha : HN r m hi g1 (sI g2 (m + 10) 1 (-1)) := hh.kp (j9 _ _ (by omega)) (by rw [rI_n (by omega), j10.f (by decide), rI_n (by omega)])
      have mK : f11_logLine_J21 K2 n m (mw h2 m) (nI b) (sI h2 m 21 1) = (bd (f11_take K2 n m (0 : Int32) (0 : Int32) (39 : Int32) (sI g2 (m + 10) 1 (-1))) fun y14 h13 => if y14 = 0 then some ((0 : Int32), h13) else if (lg_cmp (mw h2 m) (6778740 : Int64)) = 0 then (bd (f11_take K2 n m (1 : Int32) (0 : Int32) (99 : Int32) h13) fun y19 h18 => if y19 = 0 then some ((0 : Int32), h18) else f11_logLine_J72 K2 n m h18) else f11_logLine_J72 K2 n m h13) := by
        unfold f11_logLine_J21
        rw [full, x_bp, j4, x_bp, x_lt]; rfl
      rw [mK]
      have base1 : FrL r h1 g1 := ⟨j8, fun a k ha => j9 a k (by omega)⟩
      have base2 : ChM RTl m h2 (sI g2 (m + 10) 1 (-1)) := (c21.up (by decide)).tr ((j10.up (by decide)).tr (chr.up (by decide)))
      have row0 : ∀ p, (sI g2 (m + 10) 1 (-1)).1 (m + 9) p = h2.1 (m + 9) p := fun p => by rw [rI_n (by omega), j10.a (by omega) (by decide), rI_n (by omega)]
      obtain ⟨nf, hnf⟩ : ∃ g, n = g + 1 + 1 + 1 := ⟨n - 3, by omega⟩
      have shp : f5_shapeOf (nI vb) = if vb = 11 then 22 else 23 := by
        rcases (show vb = 11 ∨ vb = 12 by omega) with rfl | rfl <;> decide
      rw [shp]
      have k39 : ∀ v : Nat, v ≤ 99 → (decide (v < 40) = true ↔ ¬ f11_in (nI v) (0 : Int32) (39 : Int32) = 0) := fun v hv => by
        have := in_b (v := v) (lo := 0) (hi := 39) hv (by omega) (by omega)
        rw [show f11_in (nI v) (0 : Int32) (39 : Int32) = f11_in (nI v) (nI 0) (nI 39) from rfl, ← this]
        simp; omega
      have k99 : ∀ v : Nat, v ≤ 99 → (decide (v ≤ 99) = true ↔ ¬ f11_in (nI v) (0 : Int32) (99 : Int32) = 0) := fun v hv => by
        have := in_b (v := v) (lo := 0) (hi := 99) hv (by omega) (by omega)
        rw [show f11_in (nI v) (0 : Int32) (99 : Int32) = f11_in (nI v) (nI 0) (nI 99) from rfl, ← this]
        simp
      by_cases hv : vb = 11
      · rw [if_pos hv]
        have lg1 : lg_cmp (mw h2 m) (6778740 : Int64) = 0 := e11.mpr hv
        have st := arg_num (K1 := K1) (K2 := K2) (n := n) (vb := nI vb) (sh := 22) (i := 0) (k := 0) (c := 107) (lo := 0) (hi' := 39) (fu := nf + 1 + 1) ku ne nu hn La ha (fun v => decide (v < 40)) (by omega) (by omega) (by decide) (by decide) (by decide) (by omega) (fun v H h1 h2 => cnb_k h1 h2) k39
        have eL : f5_readLine_L55 K1 n r (nI vb) 22 n (0 : Int32) g1 = f5_readLine_L55 K1 n r (nI vb) 22 (nf + 1 + 1 + 1) (nI 0) g1 := by rw [← hnf]; rfl
        rw [eL]
        rcases st with ⟨y1, y2, w1, w2, w3, w4, w5⟩ | ⟨v, y1, y2, v99, w1, w2, a2, b2, kd2, f2, p2, w3, w4, w5, w6, w7, w8, w9, w10, w11, w12⟩
        · refine Or.inl ⟨b1, y1, y2, w1, ?_, w3, base1.tr w4.up, base2.tr (w5.up (by decide))⟩
          have w2 : f11_take K2 n m (0 : Int32) (0 : Int32) (39 : Int32) (sI g2 (m + 10) 1 (-1)) = some (0, y2) := w2
          rw [w2, x_bd, if_pos rfl, x_bd, f11_allLines_J77, if_pos rfl, f11_allLines_J95, if_pos rfl]
        · have w2 : f11_take K2 n m (0 : Int32) (0 : Int32) (39 : Int32) (sI g2 (m + 10) 1 (-1)) = some (1, y2) := w2
          rw [w1, w2, x_bd, if_neg b_10, if_pos lg1]
          have st2 := arg_num (K1 := K1) (K2 := K2) (n := n) (vb := nI vb) (sh := 22) (i := 1) (k := 1) (c := 102) (lo := 0) (hi' := 99) (fu := nf + 1) ku ne nu hn w3 w10 (fun v => decide (v ≤ 99)) (by omega) (by omega) (by decide) (by decide) (by decide) (by omega) (fun v H h1 h2 => cnb_f h1 h2) k99
          rcases st2 with ⟨z1, z2, x1, x2, x3, x4, x5⟩ | ⟨v', z1, z2, v99', x1, x2, a3, b3, kd3, f3, p3, x3, x4, x5, x6, x7, x8, x9, x10, x11, x12⟩
          · refine Or.inl ⟨b2, z1, z2, x1, ?_, x3, base1.tr (w11.up.tr x4.up), base2.tr ((w12.up (by decide)).tr (x5.up (by decide)))⟩
            have x2 : f11_take K2 n m (1 : Int32) (0 : Int32) (99 : Int32) y2 = some (0, z2) := x2
            rw [x2, x_bd, if_pos rfl, x_bd, f11_allLines_J77, if_pos rfl, f11_allLines_J95, if_pos rfl]
          · have x2 : f11_take K2 n m (1 : Int32) (0 : Int32) (99 : Int32) y2 = some (1, z2) := x2
            have ex : f5_readLine_L55 K1 n r (nI vb) 22 (nf + 1) (nI (1 + 1)) z1 = f5_readLine_J141 K1 n r (nI vb) z1 := by
              rw [f5_readLine_L55, if_pos (show slen 22 ≤ nI (1 + 1) by decide)]
            rw [x1, x2, x_bd, if_neg b_10, ex]
            have row : ∀ p, z2.1 (m + 9) p = h2.1 (m + 9) p := fun p => by rw [x12.a (by omega) (by decide), w12.a (by omega) (by decide), row0]
            have fin := log_end (K1 := K1) (K2 := K2) ku ne nu hu hn x3 x10 hq (by rw [row]; exact hq0) (vb := vb) (Or.inl hv) (fun f0 => by
              obtain ⟨u1, u2, u3⟩ := x5 f0
              obtain ⟨u4, u5, u6⟩ := w5 u1
              obtain ⟨u7, u8⟩ := j7 u4
              obtain ⟨d1, d2⟩ := Dq u7
              have q8 : q < 8 := by
                have := d1.1
                rw [this] at u8
                have e1 : (nI q < (8 : Int32)) = (q < 8) := x_lt' (ab := 8) (by omega) (by omega)
                rw [e1] at u8; omega
              have er : (fun p => z2.1 (m + 9) p) = (fun p => h2.1 (m + 9) p) := funext row
              have r0 : z2.1 (m + 10) 0 = nI v := by rw [x9 0 (by omega)]; exact w8 (Or.inl rfl)
              have c0 : z1.1 (r + 21) 0 = nI v := by rw [x7 0 (by omega)]; exact w6
              have r1 : z2.1 (m + 10) 1 = nI v' := x8 (Or.inl rfl)
              refine ⟨q8, ?_, by rw [er]; exact d2, by rw [r0, c0], by rw [if_pos hv, r1, x6], ⟨v, ?_, c0⟩, Or.inr ⟨v', v99', r1⟩⟩
              · rw [er]
                exact d1.kq (fun a k ha hb => by rw [x11.2 _ _ (by omega) (by omega), w11.2 _ _ (by omega) (by omega), j9 _ _ (by omega)])
              · have := of_decide_eq_true u5
                omega) r2
            rcases fin with ⟨b', e1, e2, e3, e4, e5, e6, e7⟩ | ⟨a', b', kd', f', p', hi', e1, e2, e3, e4, e5, e6, e7, e8, e9, e10⟩
            · exact Or.inl ⟨b', e1, e2, e3, e4, e5, base1.tr (w11.up.tr (x11.up.tr e6)), base2.tr ((w12.up (by decide)).tr ((x12.up (by decide)).tr e7))⟩
            · exact Or.inr ⟨a', b', kd', f', p', hi', e1, e2, e3, e4, e5, by omega, e7, e8, base1.tr (w11.up.tr (x11.up.tr e9)), base2.tr ((w12.up (by decide)).tr ((x12.up (by decide)).tr e10))⟩
      · rw [if_neg hv]
        have lg1 : ¬ lg_cmp (mw h2 m) (6778740 : Int64) = 0 := fun hh => hv (e11.mp hh)
        have st := arg_num (K1 := K1) (K2 := K2) (n := n) (vb := nI vb) (sh := 23) (i := 0) (k := 0) (c := 107) (lo := 0) (hi' := 39) (fu := nf + 1 + 1) ku ne nu hn La ha (fun v => decide (v < 40)) (by omega) (by omega) (by decide) (by decide) (by decide) (by omega) (fun v H h1 h2 => cnb_k h1 h2) k39
        have eL : f5_readLine_L55 K1 n r (nI vb) 23 n (0 : Int32) g1 = f5_readLine_L55 K1 n r (nI vb) 23 (nf + 1 + 1 + 1) (nI 0) g1 := by rw [← hnf]; rfl
        rw [eL]
        rcases st with ⟨y1, y2, w1, w2, w3, w4, w5⟩ | ⟨v, y1, y2, v99, w1, w2, a2, b2, kd2, f2, p2, w3, w4, w5, w6, w7, w8, w9, w10, w11, w12⟩
        · refine Or.inl ⟨b1, y1, y2, w1, ?_, w3, base1.tr w4.up, base2.tr (w5.up (by decide))⟩
          have w2 : f11_take K2 n m (0 : Int32) (0 : Int32) (39 : Int32) (sI g2 (m + 10) 1 (-1)) = some (0, y2) := w2
          rw [w2, x_bd, if_pos rfl, x_bd, f11_allLines_J77, if_pos rfl, f11_allLines_J95, if_pos rfl]
        · have w2 : f11_take K2 n m (0 : Int32) (0 : Int32) (39 : Int32) (sI g2 (m + 10) 1 (-1)) = some (1, y2) := w2
          have ex : f5_readLine_L55 K1 n r (nI vb) 23 (nf + 1 + 1) (nI (0 + 1)) y1 = f5_readLine_J141 K1 n r (nI vb) y1 := by
            rw [f5_readLine_L55, if_pos (show slen 23 ≤ nI (0 + 1) by decide)]
          rw [w1, w2, x_bd, if_neg b_10, if_neg lg1, ex]
          have row : ∀ p, y2.1 (m + 9) p = h2.1 (m + 9) p := fun p => by rw [w12.a (by omega) (by decide), row0]
          have r1 : y2.1 (m + 10) 1 = -1 := by rw [w9 1 (by omega), rI_e]
          have fin := log_end (K1 := K1) (K2 := K2) ku ne nu hu hn w3 w10 hq (by rw [row]; exact hq0) (vb := vb) (Or.inr (by omega)) (fun f0 => by
            obtain ⟨u4, u5, u6⟩ := w5 f0
            obtain ⟨u7, u8⟩ := j7 u4
            obtain ⟨d1, d2⟩ := Dq u7
            have q8 : q < 8 := by
              have := d1.1
              rw [this] at u8
              have e1 : (nI q < (8 : Int32)) = (q < 8) := x_lt' (ab := 8) (by omega) (by omega)
              rw [e1] at u8; omega
            have er : (fun p => y2.1 (m + 9) p) = (fun p => h2.1 (m + 9) p) := funext row
            have r0 : y2.1 (m + 10) 0 = nI v := w8 (Or.inl rfl)
            refine ⟨q8, ?_, by rw [er]; exact d2, by rw [r0, w6], by rw [if_neg hv, r1], ⟨v, ?_, w6⟩, Or.inl r1⟩
            · rw [er]
              exact d1.kq (fun a k ha hb => by rw [w11.2 _ _ (by omega) (by omega), j9 _ _ (by omega)])
            · have := of_decide_eq_true u5
              omega) r2
          rcases fin with ⟨b', e1, e2, e3, e4, e5, e6, e7⟩ | ⟨a', b', kd', f', p', hi', e1, e2, e3, e4, e5, e6, e7, e8, e9, e10⟩
          · exact Or.inl ⟨b', e1, e2, e3, e4, e5, base1.tr (w11.up.tr e6), base2.tr ((w12.up (by decide)).tr e7)⟩
          · exact Or.inr ⟨a', b', kd', f', p', hi', e1, e2, e3, e4, e5, by omega, e7, e8, base1.tr (w11.up.tr e9), base2.tr ((w12.up (by decide)).tr e10)⟩
  · exact refuse (fun hh => h1d hh.1) (fun hh => h1d hh.1) (Or.inl h1d)
end LogL
