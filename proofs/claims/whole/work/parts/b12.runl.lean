section LOs
variable {K1 K2 : Ly} {n r u m l s b b1 : Nat} {h1 h2 h1a h2a : Hp} {t : Nat → Int32} {D : Nat → Nat → Hp → Hp → Prop} {r2 : Int32 → Hp → Option (Int32 × Hp)} {E1 : Option Hp} {E2 : Option (Int32 × Hp)}
theorem LO.pre (v : LO r u m t l s b1 D r2 h1a h2a E1 E2) (hb : b ≤ b1) (q1 : FrL r h1 h1a) (q2 : ChM RTl m h2 h2a) : LO r u m t l s b D r2 h1 h2 E1 E2 := by
  rcases v with ⟨b', e1, e2, e3, e4, e5, e6, e7⟩ | ⟨a', b', kd', f', p', hi', e1, e2, e3, e4, e5, e6, e7, e8, e9, e10⟩
  · exact Or.inl ⟨b', e1, e2, e3, e4, e5, q1.tr e6, q2.tr e7⟩
  · exact Or.inr ⟨a', b', kd', f', p', hi', e1, e2, e3, e4, e5, by omega, e7, e8, q1.tr e9, q2.tr e10⟩
theorem J77_0 {S : Int32} {H : Hp} : f11_allLines_J77 K2 n r2 m S 0 H = r2 0 H := by
  rw [f11_allLines_J77, if_pos rfl, f11_allLines_J95, if_pos rfl]
/-- refused behind a verb -/
theorem LO.no {X : Option (Int32 × Hp)} {Y : Int32 → Hp → Option (Int32 × Hp)} {S : Int32} (v : RfO r m b1 h1 h2 E1 X) (hY : ∀ h, Y 0 h = some (0, h)) : LO r u m t l s b D r2 h1 h2 E1 (bd (bd X Y) fun y h => f11_allLines_J77 K2 n r2 m S y h) := by
  obtain ⟨p1, p2, g1, g2, g3, g4, g5⟩ := v
  refine Or.inl ⟨b1, p1, p2, g1, ?_, g3, g4.up, g5.up (by decide)⟩
  rw [g2, x_bd, hY, x_bd, J77_0]
end LOs
section RunL
variable {K1 K2 : Ly} {n r u m l a b kd f p hi : Nat} {h1 h2 : Hp} {t : Nat → Int32}
theorem n_ok : ∀ v : Nat, v ≤ 99 → (decide (v < 6) = true ↔ (v < 6 ∧ ¬ nI v = (-1 : Int32))) := fun v hv => by
  rw [decide_eq_true_eq, x_nm1 (by omega)]; exact ⟨fun hh => ⟨hh, fun hh => hh⟩, fun hh => hh.1⟩
theorem run_line (ku : K1 u = some (.inr (1, 600))) (ne : r ≠ u) (nu : u ≠ r + 21) (hu : ¬ (r + 1 ≤ u ∧ u ≤ r + 20)) (hn : 5000 ≤ n) (L : LnS r u m t l a b kd 1 f p h1 h2) (k0 : kd ≠ 0) (hh : HN r m hi h1 h2) (D : RGn r m f h1 h2) (r2 : Int32 → Hp → Option (Int32 × Hp)) :
    LO r u m t l 1 b (fun _ f => RGn r m f) r2 h1 h2 (f5_readLine K1 n r h1) (bd (f11_runLine K2 n m (mw h2 m) (nI b) (sI h2 m 21 1)) fun y h => f11_allLines_J77 K2 n r2 m 1 y h) := by
  have c21 : ChM [121] m h2 (sI h2 m 21 1) := ChM.F (by simp) ChM.rf
  have Lg := L.k2 c21 (by decide)
  have T := Lg.1
  have bl := T.bl
  have l6 := T.1.1
  obtain ⟨q, hq, hq0, Dq⟩ := D
  have s6 : h1.1 r 6 = nI 1 := L.2.1
  have c6 : (lg_cmp (mw h2 m) (6386539 : Int64) = 0) ↔ (kd = 1 ∧ isV' t b (a - b) 6) := mw_v L (v := 6) (by omega)
  have c7 : (lg_cmp (mw h2 m) (440005915496 : Int64) = 0) ↔ (kd = 1 ∧ isV' t b (a - b) 7) := mw_v L (v := 7) (by omega)
  have c8 : (lg_cmp (mw h2 m) (2002872692 : Int64) = 0) ↔ (kd = 1 ∧ isV' t b (a - b) 8) := mw_v L (v := 8) (by omega)
  have c9 : (lg_cmp (mw h2 m) (6518132 : Int64) = 0) ↔ (kd = 1 ∧ isV' t b (a - b) 9) := mw_v L (v := 9) (by omega)
  have c10 : (lg_cmp (mw h2 m) (1835363940 : Int64) = 0) ↔ (kd = 1 ∧ isV' t b (a - b) 10) := mw_v L (v := 10) (by omega)
  have refuse : (∀ v, 6 ≤ v → v < 11 → ¬ (kd = 1 ∧ isV' t b (a - b) v)) → (kd ≠ 1 ∨ f5_verbHere K1 n r h1 = some (-1)) → LO r u m t l 1 b (fun _ f => RGn r m f) r2 h1 h2 (f5_readLine K1 n r h1) (bd (f11_runLine K2 n m (mw h2 m) (nI b) (sI h2 m 21 1)) fun y h => f11_allLines_J77 K2 n r2 m 1 y h) := fun nv n3 => by
    obtain ⟨p1, p2, g1, g2, g3, g4, g5⟩ := both_ref (K1 := K1) (K2 := K2) (n := n) T
    refine Or.inl ⟨b, p1, p2, ?_, ?_, g3, g4.up, (c21.up (by decide)).tr (g5.up (by decide))⟩
    · rw [c_noverb L n3, g1, x_bp]
    · have db : f11_deedBy m (mw h2 m) = -1 := by
        unfold f11_deedBy
        rw [if_neg (fun hh => nv 6 (by omega) (by omega) (c6.mp hh)), if_neg (fun hh => nv 7 (by omega) (by omega) (c7.mp hh)), if_neg (fun hh => nv 8 (by omega) (by omega) (c8.mp hh)), if_neg (fun hh => nv 9 (by omega) (by omega) (c9.mp hh)), if_neg (fun hh => nv 10 (by omega) (by omega) (c10.mp hh))]
      unfold f11_runLine
      rw [x_lt, db, if_pos rfl, g2, x_bd, show isB (0 : Int32) = true by decide, x_gd, x_bd, J77_0]
  by_cases h1d : kd = 1
  · subst h1d
    obtain ⟨vb, v1, v2, v3⟩ := c_verbL (K1 := K1) ku hn L.1 (s := 1) (lo := 6) (hi := 11) (by omega) s6 rfl rfl (by omega) (by omega)
    cases vb with
    | none => exact refuse (fun v h1 h2 hh => v3 rfl v h1 h2 hh.2) (Or.inr v1)
    | some vb =>
      obtain ⟨x1, x2, x3⟩ := v2 vb rfl
      have db : f11_deedBy m (mw h2 m) = nI (vb - 6) := by
        have no : ∀ v, v < 13 → v ≠ vb → ¬ ((1 : Nat) = 1 ∧ isV' t b (a - b) v) := fun v hv hne hh => hne (isV_u hv (by omega) hh.2 x3)
        unfold f11_deedBy
        rcases (show vb = 6 ∨ vb = 7 ∨ vb = 8 ∨ vb = 9 ∨ vb = 10 by omega) with rfl | rfl | rfl | rfl | rfl
        · rw [if_pos (c6.mpr ⟨rfl, x3⟩)]; rfl
        · rw [if_neg (fun hh => no 6 (by omega) (by omega) (c6.mp hh)), if_pos (c7.mpr ⟨rfl, x3⟩)]; rfl
        · rw [if_neg (fun hh => no 6 (by omega) (by omega) (c6.mp hh)), if_neg (fun hh => no 7 (by omega) (by omega) (c7.mp hh)), if_pos (c8.mpr ⟨rfl, x3⟩)]; rfl
        · rw [if_neg (fun hh => no 6 (by omega) (by omega) (c6.mp hh)), if_neg (fun hh => no 7 (by omega) (by omega) (c7.mp hh)), if_neg (fun hh => no 8 (by omega) (by omega) (c8.mp hh)), if_pos (c9.mpr ⟨rfl, x3⟩)]; rfl
        · rw [if_neg (fun hh => no 6 (by omega) (by omega) (c6.mp hh)), if_neg (fun hh => no 7 (by omega) (by omega) (c7.mp hh)), if_neg (fun hh => no 8 (by omega) (by omega) (c8.mp hh)), if_neg (fun hh => no 9 (by omega) (by omega) (c9.mp hh)), if_pos (c10.mpr ⟨rfl, x3⟩)]; rfl
      have hA : (f5_isOneTooMany r (nI vb) h1 = 0) ↔ ¬ ¬ (h1.1 (r + 14) 0 < (40 : Int32)) := by
        unfold f5_isOneTooMany
        rw [s6, if_pos (show nI 1 = (1 : Int32) from rfl)]
        by_cases hc : h1.1 (r + 14) 0 < (40 : Int32)
        · rw [if_pos hc]; exact ⟨fun _ hh => hh hc, fun _ => rfl⟩
        · rw [if_neg hc]; exact ⟨fun hh => absurd hh b_10, fun hh => absurd hc hh⟩
      rw [c_verb L v1, c_head (by omega) hA L.1.2.1]
      have hAB : f = 0 → ((¬ (h1.1 (r + 14) 0 < (40 : Int32))) ↔ ((sI h2 m 21 1).1 (m + 9) (0 : Int32).toNatClampNeg = (40 : Int32))) := fun f0 => by
        have d := (Dq f0).1.1
        have z0 : (sI h2 m 21 1).1 (m + 9) (0 : Int32).toNatClampNeg = nI q := by
          show (sI h2 m 21 1).1 (m + 9) 0 = nI q
          rw [rI_n (by omega)]; exact hq0
        rw [d, z0]
        have e1 : (nI q < (40 : Int32)) = (q < 40) := x_lt' (ab := 40) (by omega) (by omega)
        have e2 : (nI q = (40 : Int32)) = (q = 40) := x_eq (ab := 40) (by omega) (by omega)
        rw [e1, e2]; omega
      obtain ⟨a1, b1, kd1, f1, p1, P, Q, g1, g2, j1, j2, j3, j4, j5, j6, j7, j8, j9, j10⟩ := both_head (K1 := K1) (K2 := K2) ku ne nu hn Lg (by omega) hAB
      rw [j1, x_bp, f5_readLine_J44, j2, x_bp]
      have full : f11_full K2 n m (0 : Int32) (40 : Int32) (nI b) (sI h2 m 21 1) = some Q := by
        unfold f11_full
        rw [show inb (0 : Int32) 122 = true by decide, x_gd, ← j3]
        by_cases hc : (sI h2 m 21 1).1 (m + 9) (0 : Int32).toNatClampNeg = (40 : Int32)
        · rw [if_pos hc, if_pos hc]
          cases f11_addsFault K2 n m (3 : Int32) (nI b) (sI h2 m 21 1) <;> rfl
        · rw [if_neg hc, if_neg hc]
      have chr : ChM [10] m g2 (sI g2 (m + 10) 2 (-1)) := ChM.A (by omega) (by simp) ChM.rf
      have La := j5.k2 chr (by decide)
      have ha : HN r m hi g1 (sI g2 (m + 10) 2 (-1)) := hh.kp (j9 _ _ (by omega)) (by rw [rI_n (by omega), j10.f (by decide), rI_n (by omega)])
      have dne : ¬ nI (vb - 6) = (-1 : Int32) := by rw [x_nm1 (by omega)]; exact fun hh => hh
      have d2 : (nI (vb - 6) = (2 : Int32)) = (vb - 6 = 2) := x_eq (ab := 2) (by omega) (by omega)
      have d2l : (nI (vb - 6) ≤ (2 : Int32)) = (vb - 6 ≤ 2) := x_le (ab := 2) (by omega) (by omega)
      have d2g : ((2 : Int32) ≤ nI (vb - 6)) = (2 ≤ vb - 6) := x_le (aa := 2) (by omega) (by omega)
      have base1 : FrL r h1 g1 := ⟨j8, fun a k ha => j9 a k (by omega)⟩
      have base2 : ChM RTl m h2 (sI g2 (m + 10) 2 (-1)) := (c21.up (by decide)).tr ((j10.up (by decide)).tr (chr.up (by decide)))
      have row0 : ∀ p, (sI g2 (m + 10) 2 (-1)).1 (m + 9) p = h2.1 (m + 9) p := fun p => by rw [rI_n (by omega), j10.a (by omega) (by decide), rI_n (by omega)]
      obtain ⟨nf, hnf⟩ : ∃ g, n = g + 1 + 1 + 1 := ⟨n - 3, by omega⟩
      have q40 : f1 = 0 → q < 40 ∧ f = 0 := fun h0 => by
        obtain ⟨u7, u8⟩ := j7 h0
        have := (Dq u7).1.1
        rw [this] at u8
        have e1 : (nI q < (40 : Int32)) = (q < 40) := x_lt' (ab := 40) (by omega) (by omega)
        rw [e1] at u8
        exact ⟨by omega, u7⟩
      by_cases hv8 : vb = 8
      · have shp : f5_shapeOf (nI vb) = 20 := by rw [hv8]; decide
        have mK : f11_runLine K2 n m (mw h2 m) (nI b) (sI h2 m 21 1) = (bd (f11_take K2 n m (nI 1) (nI 1) (nI 20) (sI g2 (m + 10) 2 (-1))) fun y15 h14 => if y15 = 0 then some ((0 : Int32), h14) else f11_runLine_J105 K2 n m (nI (vb - 6)) h14) := by
          unfold f11_runLine f11_runLine_J54 f11_runLine_J69 f11_runLine_J83
          rw [x_lt, db, if_neg dne, full, x_bp, j4, x_bp, x_lt]
          simp only [d2, d2l, d2g, show (vb - 6 = 2) = True from eq_true (by omega), show (2 ≤ vb - 6) = True from eq_true (by omega), show (vb - 6 ≤ 2) = True from eq_true (by omega), if_true]; rfl
        rw [shp, mK]
        have k20 : ∀ v : Nat, v ≤ 99 → (decide (1 ≤ v ∧ v ≤ 20) = true ↔ ¬ f11_in (nI v) (nI 1) (nI 20) = 0) := fun v hv => in_b (v := v) (lo := 1) (hi := 20) hv (by omega) (by omega)
        have st := arg_num (K1 := K1) (K2 := K2) (n := n) (vb := nI vb) (sh := 20) (i := 0) (k := 1) (c := 116) (lo := nI 1) (hi' := nI 20) (fu := nf + 1 + 1) ku ne nu hn La ha (fun v => decide (1 ≤ v ∧ v ≤ 20)) (by omega) (by omega) (by decide) (by decide) (by decide) (by omega) (fun v H h1 h2 => cnb_t h1 h2) k20
        have eL : f5_readLine_L55 K1 n r (nI vb) 20 n (0 : Int32) g1 = f5_readLine_L55 K1 n r (nI vb) 20 (nf + 1 + 1 + 1) (nI 0) g1 := by rw [← hnf]; rfl
        rw [eL]
        rcases st with st | ⟨v, y1, y2, v99, w1, w2, a2, b2, kd2, f2, p2, w3, w4, w5, w6, w7, w8, w9, w10, w11, w12⟩
        · exact (LO.no (b := b) st (fun h => by rw [if_pos rfl])).pre (Nat.le_refl _) base1 base2
        · have ex : f5_readLine_L55 K1 n r (nI vb) 20 (nf + 1 + 1) (nI (0 + 1)) y1 = f5_readLine_J141 K1 n r (nI vb) y1 := by
            rw [f5_readLine_L55, if_pos (show slen 20 ≤ nI (0 + 1) by decide)]
          rw [w1, w2, x_bd, if_neg b_10, ex]
          have row : ∀ p, y2.1 (m + 9) p = h2.1 (m + 9) p := fun p => by rw [w12.a (by omega) (by decide), row0]
          have er : (fun p => y2.1 (m + 9) p) = (fun p => h2.1 (m + 9) p) := funext row
          refine (run_end (K1 := K1) (K2 := K2) ku ne nu hu hn w3 w10 hq (by rw [row]; exact hq0) (vb := vb) (by omega) (fun f0 => ?_) r2).pre (show b ≤ b2 by omega) (base1.tr w11.up) (base2.tr (w12.up (by decide)))
          obtain ⟨u1, u2, u3⟩ := w5 f0
          obtain ⟨u4, u5⟩ := q40 u1
          obtain ⟨d1, d2'⟩ := Dq u5
          have hv := of_decide_eq_true u2
          refine ⟨u4, ?_, by rw [er]; exact d2', by rw [w8 (Or.inl rfl), w6], by rw [if_pos hv8, w9 2 (by omega), rI_e], Or.inr (Or.inl ⟨hv8, v, hv.1, hv.2, w6⟩)⟩
          rw [er]
          exact d1.kq (fun a k ha hb => by rw [w11.2 _ _ (by omega) (by omega), j9 _ _ (by omega)])
      · have st := fun (sh : Nat) (h0 : 0 < es_len.getD sh 0) (h4 : es_len.getD sh 0 ≤ 4) (hs : sch sh (nI 0) = nI 110) => arg_node (K1 := K1) (K2 := K2) (n := n) (vb := nI vb) (sh := sh) (i := 0) (k := 1) (c := 110) (but := -1) (fu := nf + 1 + 1) ku ne nu hn La ha (fun v => decide (v < 6)) (by omega) (by omega) h0 h4 hs (by omega) (fun v H h1 h2 _ => cnb_n h1 h2) n_ok
        have mK : f11_runLine K2 n m (mw h2 m) (nI b) (sI h2 m 21 1) = (bd (f11_takeNode K2 n m (nI 1) (-1 : Int32) (sI g2 (m + 10) 2 (-1))) fun y20 h19 => if y20 = 0 then some ((0 : Int32), h19) else f11_runLine_J69 K2 n m (nI (vb - 6)) h19) := by
          unfold f11_runLine f11_runLine_J54
          rw [x_lt, db, if_neg dne, full, x_bp, j4, x_bp, x_lt]
          simp only [d2]
          rw [if_neg (show ¬ vb - 6 = 2 by omega), if_neg (show ¬ vb - 6 = 2 by omega)]; rfl
        rw [mK]
        by_cases hv7 : vb ≤ 7
        · have shp : f5_shapeOf (nI vb) = 19 := by rcases (show vb = 6 ∨ vb = 7 by omega) with rfl | rfl <;> decide
          rw [shp]
          have eL : f5_readLine_L55 K1 n r (nI vb) 19 n (0 : Int32) g1 = f5_readLine_L55 K1 n r (nI vb) 19 (nf + 1 + 1 + 1) (nI 0) g1 := by rw [← hnf]; rfl
          rw [eL]
          rcases st 19 (by decide) (by decide) (by decide) with st | ⟨v, y1, y2, v99, w1, w2, a2, b2, kd2, f2, p2, w3, w4, w5, w6, w7, w8, w9, w10, w11, w12⟩
          · exact (LO.no (b := b) st (fun h => by rw [if_pos rfl])).pre (Nat.le_refl _) base1 base2
          · have mJ : f11_runLine_J69 K2 n m (nI (vb - 6)) y2 = (bd (f11_takeName K2 n m (nI 2) y2) fun y25 h24 => if y25 = 0 then some ((0 : Int32), h24) else f11_runLine_J105 K2 n m (nI (vb - 6)) h24) := by
              unfold f11_runLine_J69 f11_runLine_J83
              simp only [d2l, d2g, show (2 ≤ vb - 6) = False from eq_false (by omega), show (vb - 6 ≤ 2) = True from eq_true (by omega), if_true, if_false]; rfl
            rw [w1, w2, x_bd, if_neg b_10, mJ]
            rcases arg_word (K1 := K1) (K2 := K2) (n := n) (vb := nI vb) (sh := 19) (i := 1) (k := 2) (fu := nf + 1) ku ne nu hn w3 w10 (by omega) (by omega) (by decide) (by decide) (by decide) with st2 | ⟨y, z1, z2, o1, o2, a3, b3, kd3, f3, p3, o3, o4, o5, o6, o7, o8, o9, o10, o11, o12⟩
            · exact (LO.no (b := b) st2 (fun h => by rw [if_pos rfl])).pre (Nat.le_refl _) (base1.tr w11.up) (base2.tr (w12.up (by decide)))
            · have ex : f5_readLine_L55 K1 n r (nI vb) 19 (nf + 1) (nI (1 + 1)) z1 = f5_readLine_J141 K1 n r (nI vb) z1 := by
                rw [f5_readLine_L55, if_pos (show slen 19 ≤ nI (1 + 1) by decide)]
              rw [o1, o2, x_bd, if_neg b_10, ex]
              have row : ∀ p, z2.1 (m + 9) p = h2.1 (m + 9) p := fun p => by rw [o12.a (by omega) (by decide), w12.a (by omega) (by decide), row0]
              have er : (fun p => z2.1 (m + 9) p) = (fun p => h2.1 (m + 9) p) := funext row
              refine (run_end (K1 := K1) (K2 := K2) ku ne nu hu hn o3 o10 hq (by rw [row]; exact hq0) (vb := vb) (by omega) (fun f0 => ?_) r2).pre (show b ≤ b3 by omega) (base1.tr (w11.up.tr o11.up)) (base2.tr ((w12.up (by decide)).tr (o12.up (by decide))))
              obtain ⟨t1, ⟨wd, t2, t3, t4⟩, t5⟩ := o5 f0
              obtain ⟨u1, u2, u3⟩ := w5 t1
              obtain ⟨u4, u5⟩ := q40 u1
              obtain ⟨d1, d2'⟩ := Dq u5
              have hv := of_decide_eq_true u2
              have r1 : z2.1 (m + 10) 1 = nI v := by rw [o9 1 (by omega)]; exact w8 (Or.inl rfl)
              have q0 : z1.1 (r + 21) 0 = nI v := by rw [o7 0 (by omega)]; exact w6
              refine ⟨u4, ?_, by rw [er]; exact d2', by rw [r1, q0], by rw [if_neg hv8, o8 (Or.inr f0), o6], Or.inl ⟨by omega, ⟨v, hv, q0⟩, wd, t2, t3, by rw [o6]; exact t4⟩⟩
              rw [er]
              exact d1.kq (fun a k ha hb => by rw [o11.2 _ _ (by omega) (by omega), w11.2 _ _ (by omega) (by omega), j9 _ _ (by omega)])
        · have shp : f5_shapeOf (nI vb) = 21 := by rcases (show vb = 9 ∨ vb = 10 by omega) with rfl | rfl <;> decide
          rw [shp]
          have eL : f5_readLine_L55 K1 n r (nI vb) 21 n (0 : Int32) g1 = f5_readLine_L55 K1 n r (nI vb) 21 (nf + 1 + 1 + 1) (nI 0) g1 := by rw [← hnf]; rfl
          rw [eL]
          rcases st 21 (by decide) (by decide) (by decide) with st | ⟨v, y1, y2, v99, w1, w2, a2, b2, kd2, f2, p2, w3, w4, w5, w6, w7, w8, w9, w10, w11, w12⟩
          · exact (LO.no (b := b) st (fun h => by rw [if_pos rfl])).pre (Nat.le_refl _) base1 base2
          · have r1 : y2.1 (m + 10) 1 = nI v := w8 (Or.inl rfl)
            have mJ : f11_runLine_J69 K2 n m (nI (vb - 6)) y2 = (bd (f11_takeNode K2 n m (nI 2) (nI v) y2) fun y30 h29 => if y30 = 0 then some ((0 : Int32), h29) else f11_runLine_J105 K2 n m (nI (vb - 6)) h29) := by
              unfold f11_runLine_J69 f11_runLine_J83
              simp only [d2l, d2g]
              rw [if_pos (show 2 ≤ vb - 6 by omega), if_neg (show ¬ vb - 6 ≤ 2 by omega), show (1 : Int32).toNatClampNeg = 1 from rfl, r1]; rfl
            rw [w1, w2, x_bd, if_neg b_10, mJ]
            rcases arg_node (K1 := K1) (K2 := K2) (n := n) (vb := nI vb) (sh := 21) (i := 1) (k := 2) (c := 109) (but := nI v) (fu := nf + 1) ku ne nu hn w3 w10 (fun v' => decide (v' < 6 ∧ ¬ nI v' = nI v)) (by omega) (by omega) (by decide) (by decide) (by decide) (by omega) (fun v' H h1 h2 h3 => cnb_m h1 h2 ((h3 (by omega)).trans w6)) (fun v' _ => by rw [decide_eq_true_eq]) with st2 | ⟨v', z1, z2, v99', o1, o2, a3, b3, kd3, f3, p3, o3, o4, o5, o6, o7, o8, o9, o10, o11, o12⟩
            · exact (LO.no (b := b) st2 (fun h => by rw [if_pos rfl])).pre (Nat.le_refl _) (base1.tr w11.up) (base2.tr (w12.up (by decide)))
            · have ex : f5_readLine_L55 K1 n r (nI vb) 21 (nf + 1) (nI (1 + 1)) z1 = f5_readLine_J141 K1 n r (nI vb) z1 := by
                rw [f5_readLine_L55, if_pos (show slen 21 ≤ nI (1 + 1) by decide)]
              rw [o1, o2, x_bd, if_neg b_10, ex]
              have row : ∀ p, z2.1 (m + 9) p = h2.1 (m + 9) p := fun p => by rw [o12.a (by omega) (by decide), w12.a (by omega) (by decide), row0]
              have er : (fun p => z2.1 (m + 9) p) = (fun p => h2.1 (m + 9) p) := funext row
              refine (run_end (K1 := K1) (K2 := K2) ku ne nu hu hn o3 o10 hq (by rw [row]; exact hq0) (vb := vb) (by omega) (fun f0 => ?_) r2).pre (show b ≤ b3 by omega) (base1.tr (w11.up.tr o11.up)) (base2.tr ((w12.up (by decide)).tr (o12.up (by decide))))
              obtain ⟨t1, t2, t5⟩ := o5 f0
              obtain ⟨u1, u2, u3⟩ := w5 t1
              obtain ⟨u4, u5⟩ := q40 u1
              obtain ⟨d1, d2'⟩ := Dq u5
              have hv := of_decide_eq_true u2
              have hv' := of_decide_eq_true t2
              have r1' : z2.1 (m + 10) 1 = nI v := by rw [o9 1 (by omega)]; exact r1
              have q0 : z1.1 (r + 21) 0 = nI v := by rw [o7 0 (by omega)]; exact w6
              refine ⟨u4, ?_, by rw [er]; exact d2', by rw [r1', q0], by rw [if_neg hv8, o8 (Or.inl rfl), o6], Or.inr (Or.inr ⟨by omega, ⟨v, hv, q0⟩, v', hv'.1, o6⟩)⟩
              rw [er]
              exact d1.kq (fun a k ha hb => by rw [o11.2 _ _ (by omega) (by omega), w11.2 _ _ (by omega) (by omega), j9 _ _ (by omega)])
  · exact refuse (fun v _ _ hh => h1d hh.1) (Or.inl h1d)
end RunL
