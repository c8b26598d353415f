section NetM
variable {K1 K2 : Ly} {n r u m l a b kd f p hi : Nat} {h1 h2 g2 : Hp} {t : Nat → Int32}
/-- a link -/
theorem net_3 (ku : K1 u = some (.inr (1, 600))) (ne : r ≠ u) (nu : u ≠ r + 21) (hu : ¬ (r + 1 ≤ u ∧ u ≤ r + 20)) (hn : 5000 ≤ n) (L : LnS r u m t l a b kd 0 f p h1 h2) (hh : HN r m hi h1 h2) (S : NS r m f hi h1 h2) (r2 : Int32 → Hp → Option (Int32 × Hp)) :
    LO r u m t l 0 b (fun hi f => NGn r m hi f) r2 h1 h2 (f5_readLine_L55 K1 n r (nI 3) 16 n 0 h1) (bd (bd (f11_takeNode K2 n m (0 : Int32) (-1 : Int32) h2) fun y22 h21 => if y22 = 0 then some ((0 : Int32), h21) else bd (f11_takeNode K2 n m (1 : Int32) (h21.1 (m + 10) (0 : Int32).toNatClampNeg) h21) fun y26 h25 => if y26 = 0 then some ((0 : Int32), h25) else bd (f11_take K2 n m (2 : Int32) (1 : Int32) (9 : Int32) h25) fun y30 h29 => if y30 = 0 then some ((0 : Int32), h29) else if (h29.1 m 21) = 0 then some ((1 : Int32), h29) else bp (f11_keepLink K2 n m h29) fun h34 => some ((1 : Int32), h34)) fun y h => f11_allLines_J77 K2 n r2 m 0 y h) := by
  obtain ⟨nf, hnf⟩ : ∃ g, n = g + 1 + 1 + 1 + 1 := ⟨n - 4, by omega⟩
  obtain ⟨s21, B, SN⟩ := S
  have eL : f5_readLine_L55 K1 n r (nI 3) 16 n (0 : Int32) h1 = f5_readLine_L55 K1 n r (nI 3) 16 (nf + 1 + 1 + 1 + 1) (nI 0) h1 := by rw [← hnf]; rfl
  rw [eL]
  rcases arg_node (K1 := K1) (K2 := K2) (n := n) (vb := nI 3) (sh := 16) (i := 0) (k := 0) (c := 110) (but := -1) (fu := nf + 1 + 1 + 1) ku ne nu hn L hh (fun v => decide (v < 6)) (by omega) (by omega) (by decide) (by decide) (by decide) (by omega) (fun v H h1 h2 _ => cnb_n h1 h2) n_ok with st | ⟨v, y1, y2, v99, w1, w2, a2, b2, kd2, f2, p2, w3, w4, w5, w6, w7, w8, w9, w10, w11, w12⟩
  · exact LO.no (b := b) st (fun h => by rw [if_pos rfl])
  · have w2 : f11_takeNode K2 n m (0 : Int32) (-1 : Int32) h2 = some (1, y2) := w2
    have r0 : y2.1 (m + 10) 0 = nI v := w8 (Or.inl rfl)
    rw [w1, w2, x_bd, if_neg b_10, show (0 : Int32).toNatClampNeg = 0 from rfl, r0]
    rcases arg_node (K1 := K1) (K2 := K2) (n := n) (vb := nI 3) (sh := 16) (i := 1) (k := 1) (c := 109) (but := nI v) (fu := nf + 1 + 1) ku ne nu hn w3 w10 (fun v' => decide (v' < 6 ∧ ¬ nI v' = nI v)) (by omega) (by omega) (by decide) (by decide) (by decide) (by omega) (fun v' H h1 h2 h3 => cnb_m h1 h2 ((h3 (by omega)).trans w6)) (fun v' _ => by rw [decide_eq_true_eq]) with st2 | ⟨v', z1, z2, v99', o1, o2, a3, b3, kd3, f3, p3, o3, o4, o5, o6, o7, o8, o9, o10, o11, o12⟩
    · exact (LO.no (b := b) st2 (fun h => by rw [if_pos rfl])).pre (Nat.le_refl _) w11.up (w12.up (by decide))
    · have o2 : f11_takeNode K2 n m (1 : Int32) (nI v) y2 = some (1, z2) := o2
      rw [o1, o2, x_bd, if_neg b_10]
      have k9 : ∀ v : Nat, v ≤ 99 → (decide (1 ≤ v ∧ v ≤ 9) = true ↔ ¬ f11_in (nI v) (1 : Int32) (9 : Int32) = 0) := fun v hv => in_b (v := v) (lo := 1) (hi := 9) hv (by omega) (by omega)
      rcases arg_num (K1 := K1) (K2 := K2) (n := n) (vb := nI 3) (sh := 16) (i := 2) (k := 2) (c := 100) (lo := 1) (hi' := 9) (fu := nf + 1) ku ne nu hn o3 o10 (fun v => decide (1 ≤ v ∧ v ≤ 9)) (by omega) (by omega) (by decide) (by decide) (by decide) (by omega) (fun v H h1 h2 => cnb_d h1 h2) k9 with st3 | ⟨d, x1, x2, d99, e1, e2, a4, b4, kd4, f4, p4, e3, e4, e5, e6, e7, e8, e9, e10, e11, e12⟩
      · exact (LO.no (b := b) st3 (fun h => by rw [if_pos rfl])).pre (Nat.le_refl _) (w11.up.tr o11.up) ((w12.up (by decide)).tr (o12.up (by decide)))
      · have e2 : f11_take K2 n m (2 : Int32) (1 : Int32) (9 : Int32) z2 = some (1, x2) := e2
        have ex : f5_readLine_L55 K1 n r (nI 3) 16 (nf + 1) (nI (2 + 1)) x1 = f5_readLine_J141 K1 n r (nI 3) x1 := by
          rw [f5_readLine_L55, if_pos (show slen 16 ≤ nI (2 + 1) by decide)]
        rw [e1, e2, x_bd, if_neg b_10, ex]
        have row : ∀ p, x2.1 (m + 9) p = h2.1 (m + 9) p := fun p => by rw [e12.a (by omega) (by decide), o12.a (by omega) (by decide), w12.a (by omega) (by decide)]
        have m0 : x2.1 (m + 10) 0 = nI v := by rw [e9 0 (by omega), o9 0 (by omega)]; exact r0
        have m1 : x2.1 (m + 10) 1 = nI v' := by rw [e9 1 (by omega)]; exact o8 (Or.inl rfl)
        have m2 : x2.1 (m + 10) 2 = nI d := e8 (Or.inl rfl)
        have q0 : x1.1 (r + 21) 0 = nI v := by rw [e7 0 (by omega), o7 0 (by omega)]; exact w6
        have q1 : x1.1 (r + 21) 1 = nI v' := by rw [e7 1 (by omega)]; exact o6
        have pre1 : FrL r h1 x1 := w11.up.tr (o11.up.tr e11.up)
        have pre2 : ChM RTl m h2 x2 := (w12.up (by decide)).tr ((o12.up (by decide)).tr (e12.up (by decide)))
        obtain ⟨c2, c3, c4, b1, b2', b3', b4', b5, b6⟩ := B
        by_cases g0 : x2.1 m 21 = 0
        · rw [if_pos g0, x_bd]
          refine (net_end (K1 := K1) (K2 := K2) ku ne nu hu hn e3 e10 ChM.rf ⟨c2, c3, c4, b1, b2', b3', by rw [row]; exact b4', by rw [row]; exact b5, by rw [row]; exact b6⟩ (vb := nI 3) (fun f0 => ?_) r2).pre (show b ≤ b4 by omega) pre1 pre2
          obtain ⟨t1, t2, t3⟩ := e5 f0
          obtain ⟨t4, t5, t6⟩ := o5 t1
          obtain ⟨u1, u2, u3⟩ := w5 t4
          rw [t3, t6, u3, s21] at g0
          exact absurd g0 b_10
        · obtain ⟨k, G, k1, kl, kc, kn, ka, kb⟩ := m_keepLink (K := K2) (n := n) (m := m) (h := x2) hn b1 (by rw [row]; exact b4')
          rw [if_neg g0, kl, x_bp, x_bd]
          have BG : NB m G := by
            by_cases hk : k < c2
            · have := (ka hk).2
              rw [this]
              exact ⟨c2, c3, c4, b1, b2', b3', by rw [rI_n (by omega), row]; exact b4', by rw [rI_n (by omega), row]; exact b5, by rw [rI_n (by omega), row]; exact b6⟩
            · obtain ⟨g1, g2, g3⟩ := kb (by omega)
              exact ⟨min 15 (c2 + 1), c3, c4, by omega, b2', b3', g1, by rw [g3 3 (by omega) (by omega), row]; exact b5, by rw [g3 4 (by omega) (by omega), row]; exact b6⟩
          refine (net_end (K1 := K1) (K2 := K2) ku ne nu hu hn e3 e10 kc BG (vb := nI 3) (fun f0 => ?_) r2).pre (show b ≤ b4 by omega) pre1 pre2
          obtain ⟨t1, t2, t3⟩ := e5 f0
          obtain ⟨t4, t5, t6⟩ := o5 t1
          obtain ⟨u1, u2, u3⟩ := w5 t4
          obtain ⟨N, N1, N2, N3⟩ := SN u1
          have hv := of_decide_eq_true u2
          have hv' := of_decide_eq_true t5
          have hd := of_decide_eq_true t2
          have hne : v' ≠ v := fun hh => hv'.2 (by rw [hh])
          have P := N3.up (show hi ≤ max (max hi v) v' by omega)
          have cN2 : c2 = N 2 := by
            have := N2 2 (by omega)
            rw [b4', x_eq (by omega) (by have := P.2.2.1; omega)] at this
            exact this
          subst cN2
          have pj : ∀ j, j < N 2 → (isP m x2 j ↔ mL N (6 * v + v') j = true) := fun j hj => by
            obtain ⟨⟨a1, -⟩, ⟨a3, -⟩, -⟩ := P.2.2.2.2.2.2.1 j hj
            unfold isP mL
            rw [row, row, N2 _ (by omega), N2 _ (by omega), m0, m1, x_eq (by omega) (by omega), x_eq (by omega) (by omega), x_eq (by omega) (by omega), x_eq (by omega) (by omega)]
            simp only [Bool.or_eq_true, beq_iff_eq]
            omega
          have lk : lk0 N (6 * v + v') = if k < N 2 then some k else none := by
            unfold lk0
            by_cases hk : k < N 2
            · rw [if_pos hk]
              refine fN_eq (by omega) (by omega) ((pj k hk).mp (ka hk).1) (fun i _ hi => ?_)
              cases hq : mL N (6 * v + v') i with
              | false => rfl
              | true => exact absurd ((pj i (by omega)).mpr hq) (kn i hi)
            · rw [if_neg hk]
              refine fN_none_of (fun i _ hi => ?_)
              cases hq : mL N (6 * v + v') i with
              | false => rfl
              | true => exact absurd ((pj i (by omega)).mpr hq) (kn i (by omega))
          have tell : ∀ p1, FrC r x1 p1 → ∃ p1', f5_tell K1 n r (nI 3) p1 = some p1' ∧ p1'.2 = p1.2 ∧ (∀ a k, ¬ (r + 1 ≤ a ∧ a ≤ r + 20) → p1'.1 a k = p1.1 a k) ∧ vN (r + 1) p1' (match lk0 N (6 * v + v') with | some l => uN N (13 + 3 * l) d | none => if N 2 < 15 then nLk N v v' d else N) := fun p1 fr => by
            have vp : vN (r + 1) p1 N := N1.kp (fun a k ha hb => by rw [fr.2 _ _ (by omega), e11.2 _ _ (by omega) (by omega), o11.2 _ _ (by omega) (by omega), w11.2 _ _ (by omega) (by omega)])
            have pa : p1.1 (r + 21) 0 = nI v := by rw [fr.2 _ _ (by omega)]; exact q0
            have pb : p1.1 (r + 21) 1 = nI v' := by rw [fr.2 _ _ (by omega)]; exact q1
            have pc : p1.1 (r + 21) 2 = nI d := by rw [fr.2 _ _ (by omega)]; exact e6
            obtain ⟨p1', s1, s2, s3, s4⟩ := c_addLink (K := K1) (n := n) (d := d) P hv hv'.1 vp
            refine ⟨p1', ?_, s2, fun a k ha => s3 a k (by omega), s4⟩
            unfold f5_tell
            rw [if_neg (show ¬ nI 3 = (0 : Int32) by decide), if_neg (show ¬ nI 3 = (1 : Int32) by decide), if_neg (show ¬ nI 3 = (2 : Int32) by decide), if_pos (show nI 3 = (3 : Int32) from rfl), show (0 : Int32).toNatClampNeg = 0 from rfl, show (1 : Int32).toNatClampNeg = 1 from rfl, show (2 : Int32).toNatClampNeg = 2 from rfl, pa, pb, pc, s1, x_bp]
          by_cases hk : k < N 2
          · rw [if_pos hk] at lk
            rw [lk] at tell
            refine ⟨uN N (13 + 3 * k) d, nDl_P P hk hd, fun q hq => ?_, tell⟩
            rw [(ka hk).2]
            by_cases hqk : q = 13 + 3 * k
            · rw [hqk, rI_e, uN_e, m2]
            · rw [rI_n (by omega), uN_n hqk, row]; exact N2 q hq
          · rw [if_neg hk] at lk
            rw [lk] at tell
            obtain ⟨g1, g2, g3⟩ := kb (by omega)
            by_cases h15 : N 2 < 15
            · simp only [if_pos h15] at tell
              obtain ⟨l1, l2, l3, l4⟩ := nLk_r (N := N) (x := v) (y := v') (d := d)
              refine ⟨nLk N v v' d, nLk_P h15 P ⟨hv, by omega⟩ ⟨hv'.1, by omega⟩ hne hd lk, fun q hq => ?_, tell⟩
              by_cases q2 : q = 2
              · rw [q2, g1, l1, show min 15 (N 2 + 1) = N 2 + 1 by omega]
              · by_cases qa : q = 11 + 3 * N 2
                · rw [qa, l2]; exact (g2 h15 0 (by omega)).trans m0
                · by_cases qb : q = 12 + 3 * N 2
                  · rw [qb, l3]; have := g2 h15 1 (by omega); rw [show 11 + 3 * N 2 + 1 = 12 + 3 * N 2 by omega] at this; rw [this, m1]
                  · by_cases qc : q = 13 + 3 * N 2
                    · rw [qc, l4]; have := g2 h15 2 (by omega); rw [show 11 + 3 * N 2 + 2 = 13 + 3 * N 2 by omega] at this; rw [this, m2]
                    · rw [g3 q q2 (by omega), nLk_o q2 (by omega), row]; exact N2 q hq
            · simp only [if_neg h15] at tell
              have n15 := P.2.2.1
              refine ⟨N, P, fun q hq => ?_, tell⟩
              by_cases q2 : q = 2
              · rw [q2, g1, show min 15 (N 2 + 1) = N 2 by omega]
              · rw [g3 q q2 (by omega), row]; exact N2 q hq
/-- a route -/
theorem net_4 (ku : K1 u = some (.inr (1, 600))) (ne : r ≠ u) (nu : u ≠ r + 21) (hu : ¬ (r + 1 ≤ u ∧ u ≤ r + 20)) (hn : 5000 ≤ n) (L : LnS r u m t l a b kd 0 f p h1 h2) (hh : HN r m hi h1 h2) (S : NS r m f hi h1 h2) (h12 : f = 0 → ∀ N : Nat → Nat, vN (r + 1) h1 N → nP N hi → N 3 < 12) {w : Int64} (hw : lg_cmp w (491496240229 : Int64) = 0) (r2 : Int32 → Hp → Option (Int32 × Hp)) :
    LO r u m t l 0 b (fun hi f => NGn r m hi f) r2 h1 h2 (f5_readLine_L55 K1 n r (nI 4) 17 n 0 h1) (bd (bd (f11_takeNode K2 n m (0 : Int32) (-1 : Int32) h2) fun y59 h58 => if y59 = 0 then some ((0 : Int32), h58) else bd (f11_takeName K2 n m (1 : Int32) h58) fun y63 h62 => if y63 = 0 then some ((0 : Int32), h62) else if (lg_cmp w (491496240229 : Int64)) = 0 then (bd (f11_takeNode K2 n m (2 : Int32) (h62.1 (m + 10) (0 : Int32).toNatClampNeg) h62) fun y68 h67 => if y68 = 0 then some ((0 : Int32), h67) else f11_netLine_J312 K2 n m w h67) else f11_netLine_J312 K2 n m w h62) fun y h => f11_allLines_J77 K2 n r2 m 0 y h) := by
  obtain ⟨nf, hnf⟩ : ∃ g, n = g + 1 + 1 + 1 + 1 + 1 := ⟨n - 5, by omega⟩
  obtain ⟨s21, B, SN⟩ := S
  have eL : f5_readLine_L55 K1 n r (nI 4) 17 n (0 : Int32) h1 = f5_readLine_L55 K1 n r (nI 4) 17 (nf + 1 + 1 + 1 + 1 + 1) (nI 0) h1 := by rw [← hnf]; rfl
  rw [eL]
  rcases arg_node (K1 := K1) (K2 := K2) (n := n) (vb := nI 4) (sh := 17) (i := 0) (k := 0) (c := 110) (but := -1) (fu := nf + 1 + 1 + 1 + 1) ku ne nu hn L hh (fun v => decide (v < 6)) (by omega) (by omega) (by decide) (by decide) (by decide) (by omega) (fun v H h1 h2 _ => cnb_n h1 h2) n_ok with st | ⟨v, y1, y2, v99, w1, w2, a2, b2, kd2, f2, p2, w3, w4, w5, w6, w7, w8, w9, w10, w11, w12⟩
  · exact LO.no (b := b) st (fun h => by rw [if_pos rfl])
  · have w2 : f11_takeNode K2 n m (0 : Int32) (-1 : Int32) h2 = some (1, y2) := w2
    have r0 : y2.1 (m + 10) 0 = nI v := w8 (Or.inl rfl)
    rw [w1, w2, x_bd, if_neg b_10]
    rcases arg_word (K1 := K1) (K2 := K2) (n := n) (vb := nI 4) (sh := 17) (i := 1) (k := 1) (fu := nf + 1 + 1 + 1) ku ne nu hn w3 w10 (by omega) (by omega) (by decide) (by decide) (by decide) with st2 | ⟨y, z1, z2, o1, o2, a3, b3, kd3, f3, p3, o3, o4, o5, o6, o7, o8, o9, o10, o11, o12⟩
    · exact (LO.no (b := b) st2 (fun h => by rw [if_pos rfl])).pre (Nat.le_refl _) w11.up (w12.up (by decide))
    · have o2 : f11_takeName K2 n m (1 : Int32) y2 = some (1, z2) := o2
      have z0 : z2.1 (m + 10) 0 = nI v := by rw [o9 0 (by omega)]; exact r0
      have c0 : z1.1 (r + 21) 0 = nI v := by rw [o7 0 (by omega)]; exact w6
      rw [o1, o2, x_bd, if_neg b_10, if_pos hw, show (0 : Int32).toNatClampNeg = 0 from rfl, z0]
      rcases arg_node (K1 := K1) (K2 := K2) (n := n) (vb := nI 4) (sh := 17) (i := 2) (k := 2) (c := 109) (but := nI v) (fu := nf + 1 + 1) ku ne nu hn o3 o10 (fun v' => decide (v' < 6 ∧ ¬ nI v' = nI v)) (by omega) (by omega) (by decide) (by decide) (by decide) (by omega) (fun v' H h1 h2 h3 => cnb_m h1 h2 ((h3 (by omega)).trans c0)) (fun v' _ => by rw [decide_eq_true_eq]) with st3 | ⟨v', x1, x2, v99', e1, e2, a4, b4, kd4, f4, p4, e3, e4, e5, e6, e7, e8, e9, e10, e11, e12⟩
      · exact (LO.no (b := b) st3 (fun h => by rw [if_pos rfl])).pre (Nat.le_refl _) (w11.up.tr o11.up) ((w12.up (by decide)).tr (o12.up (by decide)))
      · have e2 : f11_takeNode K2 n m (2 : Int32) (nI v) z2 = some (1, x2) := e2
        have mJ : f11_netLine_J312 K2 n m w x2 = (bd (f11_take K2 n m (nI 3) (0 : Int32) (99 : Int32) x2) fun y75 h74 => if y75 = 0 then some ((0 : Int32), h74) else (bp (f11_keepRow K2 n m (nI 3) (nI 56) (nI 4) (nI 12) h74) fun h79 => some ((1 : Int32), h79))) := by
          unfold f11_netLine_J312 f11_netLine_J326
          simp only [if_pos hw]; rfl
        rw [e1, e2, x_bd, if_neg b_10, mJ]
        have k99 : ∀ v : Nat, v ≤ 99 → (decide (v ≤ 99) = true ↔ ¬ f11_in (nI v) (0 : Int32) (99 : Int32) = 0) := fun v hv => by
          have := in_b (v := v) (lo := 0) (hi := 99) hv (by omega) (by omega)
          rw [show f11_in (nI v) (0 : Int32) (99 : Int32) = f11_in (nI v) (nI 0) (nI 99) from rfl, ← this]
          simp
        rcases arg_num (K1 := K1) (K2 := K2) (n := n) (vb := nI 4) (sh := 17) (i := 3) (k := 3) (c := 102) (lo := 0) (hi' := 99) (fu := nf + 1) ku ne nu hn e3 e10 (fun v => decide (v ≤ 99)) (by omega) (by omega) (by decide) (by decide) (by decide) (by omega) (fun v H h1 h2 => cnb_f h1 h2) k99 with st4 | ⟨z, q1, q2, z99, i1, i2, a5, b5, kd5, f5, p5, i3, i4, i5, i6, i7, i8, i9, i10, i11, i12⟩
        · exact (LO.no (b := b) st4 (fun h => by rw [if_pos rfl])).pre (Nat.le_refl _) (w11.up.tr (o11.up.tr e11.up)) ((w12.up (by decide)).tr ((o12.up (by decide)).tr (e12.up (by decide))))
        · have ex : f5_readLine_L55 K1 n r (nI 4) 17 (nf + 1) (nI (3 + 1)) q1 = f5_readLine_J141 K1 n r (nI 4) q1 := by
            rw [f5_readLine_L55, if_pos (show slen 17 ≤ nI (3 + 1) by decide)]
          rw [i1, i2, x_bd, if_neg b_10, ex]
          have row : ∀ p, q2.1 (m + 9) p = h2.1 (m + 9) p := fun p => by rw [i12.a (by omega) (by decide), e12.a (by omega) (by decide), o12.a (by omega) (by decide), w12.a (by omega) (by decide)]
          obtain ⟨c2, c3, c4, b1, b2', b3', b4', b5', b6⟩ := B
          obtain ⟨G, g1, g2, g3, g4, g5⟩ := m_keepRow (K2 := K2) (n := n) (m := m) (c := 3) (fr := 56) (w := 4) (mo := 12) (q := c3) (by omega) (by omega) (by omega) (by omega) b2' (by omega) hn q2 (by rw [row]; exact b5')
          rw [g1, x_bp, x_bd]
          have BG : NB m G := ⟨c2, min 12 (c3 + 1), c4, b1, by omega, b3', by rw [g5 2 (by omega) (by omega), row]; exact b4', g3, by rw [g5 4 (by omega) (by omega), row]; exact b6⟩
          refine (net_end (K1 := K1) (K2 := K2) ku ne nu hu hn i3 i10 g2 BG (vb := nI 4) (fun f0 => ?_) r2).pre (show b ≤ b5 by omega) (w11.up.tr (o11.up.tr (e11.up.tr i11.up))) ((w12.up (by decide)).tr ((o12.up (by decide)).tr ((e12.up (by decide)).tr (i12.up (by decide)))))
          obtain ⟨t0, t2, t3⟩ := i5 f0
          obtain ⟨t4, t5, t6⟩ := e5 t0
          obtain ⟨t7, ⟨wd, wd1, wd2, wd3⟩, t9⟩ := o5 t4
          obtain ⟨u1, u2, u3⟩ := w5 t7
          obtain ⟨N, N1, N2, N3⟩ := SN u1
          have l12 := h12 u1 N N1 N3
          have hv := of_decide_eq_true u2
          have hv' := of_decide_eq_true t5
          have hz := of_decide_eq_true t2
          have hne : v' ≠ v := fun hh => hv'.2 (by rw [hh])
          have P := N3.up (show hi ≤ max (max hi v) v' by omega)
          have cN3 : c3 = N 3 := by
            have := N2 3 (by omega)
            rw [b5', x_eq (by omega) (by omega)] at this
            exact this
          subst cN3
          have m0 : q2.1 (m + 10) 0 = nI v := by rw [i9 0 (by omega), e9 0 (by omega)]; exact z0
          have m1 : q2.1 (m + 10) 1 = nI wd := by rw [i9 1 (by omega), e9 1 (by omega), o8 (Or.inr t4)]; exact wd3
          have m2 : q2.1 (m + 10) 2 = nI v' := by rw [i9 2 (by omega)]; exact e8 (Or.inl rfl)
          have m3 : q2.1 (m + 10) 3 = nI z := i8 (Or.inl rfl)
          have d0 : q1.1 (r + 21) 0 = nI v := by rw [i7 0 (by omega), e7 0 (by omega)]; exact c0
          have d1 : q1.1 (r + 21) 1 = nI wd := by rw [i7 1 (by omega), e7 1 (by omega), o6]; exact wd3
          have d2 : q1.1 (r + 21) 2 = nI v' := by rw [i7 2 (by omega)]; exact e6
          obtain ⟨l1, l2, l3, l4, l5⟩ := nRt_r (N := N) (x := v) (w := wd) (y := v') (z := z)
          refine ⟨nRt N v wd v' z, nRt_P l12 P ⟨hv, by omega⟩ ⟨wd1, wd2⟩ ⟨hv'.1, by omega⟩ hne hz, fun q hq => ?_, fun p1 fr => ?_⟩
          · by_cases q3 : q = 3
            · rw [q3, g3, l1, show min 12 (N 3 + 1) = N 3 + 1 by omega]
            · by_cases qa : q = 56 + 4 * N 3
              · rw [qa, l2]; exact (g4 l12 0 (by omega)).trans m0
              · by_cases qb : q = 57 + 4 * N 3
                · rw [qb, l3]; have := g4 l12 1 (by omega); rw [show 56 + 4 * N 3 + 1 = 57 + 4 * N 3 by omega] at this; rw [this, m1]
                · by_cases qc : q = 58 + 4 * N 3
                  · rw [qc, l4]; have := g4 l12 2 (by omega); rw [show 56 + 4 * N 3 + 2 = 58 + 4 * N 3 by omega] at this; rw [this, m2]
                  · by_cases qd : q = 59 + 4 * N 3
                    · rw [qd, l5]; have := g4 l12 3 (by omega); rw [show 56 + 4 * N 3 + 3 = 59 + 4 * N 3 by omega] at this; rw [this, m3]
                    · rw [g5 q q3 (by omega), nRt_o q3 (by omega), row]; exact N2 q hq
          · have vp : vN (r + 1) p1 N := N1.kp (fun a k ha hb => by rw [fr.2 _ _ (by omega), i11.2 _ _ (by omega) (by omega), e11.2 _ _ (by omega) (by omega), o11.2 _ _ (by omega) (by omega), w11.2 _ _ (by omega) (by omega)])
            have pp : ∀ k, p1.1 (r + 21) k = q1.1 (r + 21) k := fun k => fr.2 _ _ (by omega)
            obtain ⟨p1', s1, s2, s3, s4⟩ := c_addRoute (K := K1) (n := n) (x := v) (w := wd) (y := v') (z := z) l12 P vp
            refine ⟨p1', ?_, s2, fun a k ha => s3 a k (by omega), s4⟩
            unfold f5_tell
            rw [if_neg (show ¬ nI 4 = (0 : Int32) by decide), if_neg (show ¬ nI 4 = (1 : Int32) by decide), if_neg (show ¬ nI 4 = (2 : Int32) by decide), if_neg (show ¬ nI 4 = (3 : Int32) by decide), if_pos (show nI 4 = (4 : Int32) from rfl), show (0 : Int32).toNatClampNeg = 0 from rfl, show (1 : Int32).toNatClampNeg = 1 from rfl, show (2 : Int32).toNatClampNeg = 2 from rfl, show (3 : Int32).toNatClampNeg = 3 from rfl, pp, pp, pp, pp, d0, d1, d2, i6, s1, x_bp]
/-- a serve -/
theorem net_5 (ku : K1 u = some (.inr (1, 600))) (ne : r ≠ u) (nu : u ≠ r + 21) (hu : ¬ (r + 1 ≤ u ∧ u ≤ r + 20)) (hn : 5000 ≤ n) (L : LnS r u m t l a b kd 0 f p h1 h2) (hh : HN r m hi h1 h2) (S : NS r m f hi h1 h2) (h6 : f = 0 → ∀ N : Nat → Nat, vN (r + 1) h1 N → nP N hi → N 4 < 6) {w : Int64} (hw : ¬ lg_cmp w (491496240229 : Int64) = 0) (r2 : Int32 → Hp → Option (Int32 × Hp)) :
    LO r u m t l 0 b (fun hi f => NGn r m hi f) r2 h1 h2 (f5_readLine_L55 K1 n r (nI 5) 18 n 0 h1) (bd (bd (f11_takeNode K2 n m (0 : Int32) (-1 : Int32) h2) fun y59 h58 => if y59 = 0 then some ((0 : Int32), h58) else bd (f11_takeName K2 n m (1 : Int32) h58) fun y63 h62 => if y63 = 0 then some ((0 : Int32), h62) else if (lg_cmp w (491496240229 : Int64)) = 0 then (bd (f11_takeNode K2 n m (2 : Int32) (h62.1 (m + 10) (0 : Int32).toNatClampNeg) h62) fun y68 h67 => if y68 = 0 then some ((0 : Int32), h67) else f11_netLine_J312 K2 n m w h67) else f11_netLine_J312 K2 n m w h62) fun y h => f11_allLines_J77 K2 n r2 m 0 y h) := by
  obtain ⟨nf, hnf⟩ : ∃ g, n = g + 1 + 1 + 1 + 1 := ⟨n - 4, by omega⟩
  obtain ⟨s21, B, SN⟩ := S
  have eL : f5_readLine_L55 K1 n r (nI 5) 18 n (0 : Int32) h1 = f5_readLine_L55 K1 n r (nI 5) 18 (nf + 1 + 1 + 1 + 1) (nI 0) h1 := by rw [← hnf]; rfl
  rw [eL]
  rcases arg_node (K1 := K1) (K2 := K2) (n := n) (vb := nI 5) (sh := 18) (i := 0) (k := 0) (c := 110) (but := -1) (fu := nf + 1 + 1 + 1) ku ne nu hn L hh (fun v => decide (v < 6)) (by omega) (by omega) (by decide) (by decide) (by decide) (by omega) (fun v H h1 h2 _ => cnb_n h1 h2) n_ok with st | ⟨v, y1, y2, v99, w1, w2, a2, b2, kd2, f2, p2, w3, w4, w5, w6, w7, w8, w9, w10, w11, w12⟩
  · exact LO.no (b := b) st (fun h => by rw [if_pos rfl])
  · have w2 : f11_takeNode K2 n m (0 : Int32) (-1 : Int32) h2 = some (1, y2) := w2
    have r0 : y2.1 (m + 10) 0 = nI v := w8 (Or.inl rfl)
    rw [w1, w2, x_bd, if_neg b_10]
    rcases arg_word (K1 := K1) (K2 := K2) (n := n) (vb := nI 5) (sh := 18) (i := 1) (k := 1) (fu := nf + 1 + 1) ku ne nu hn w3 w10 (by omega) (by omega) (by decide) (by decide) (by decide) with st2 | ⟨y, z1, z2, o1, o2, a3, b3, kd3, f3, p3, o3, o4, o5, o6, o7, o8, o9, o10, o11, o12⟩
    · exact (LO.no (b := b) st2 (fun h => by rw [if_pos rfl])).pre (Nat.le_refl _) w11.up (w12.up (by decide))
    · have o2 : f11_takeName K2 n m (1 : Int32) y2 = some (1, z2) := o2
      have z0 : z2.1 (m + 10) 0 = nI v := by rw [o9 0 (by omega)]; exact r0
      have c0 : z1.1 (r + 21) 0 = nI v := by rw [o7 0 (by omega)]; exact w6
      have mJ : f11_netLine_J312 K2 n m w z2 = (bd (f11_take K2 n m (nI 2) (0 : Int32) (99 : Int32) z2) fun y75 h74 => if y75 = 0 then some ((0 : Int32), h74) else (bp (f11_keepRow K2 n m (nI 4) (nI 104) (nI 3) (nI 6) h74) fun h79 => some ((1 : Int32), h79))) := by
        unfold f11_netLine_J312 f11_netLine_J326
        simp only [if_neg hw]; rfl
      rw [o1, o2, x_bd, if_neg b_10, if_neg hw, mJ]
      have k99 : ∀ v : Nat, v ≤ 99 → (decide (v ≤ 99) = true ↔ ¬ f11_in (nI v) (0 : Int32) (99 : Int32) = 0) := fun v hv => by
        have := in_b (v := v) (lo := 0) (hi := 99) hv (by omega) (by omega)
        rw [show f11_in (nI v) (0 : Int32) (99 : Int32) = f11_in (nI v) (nI 0) (nI 99) from rfl, ← this]
        simp
      rcases arg_num (K1 := K1) (K2 := K2) (n := n) (vb := nI 5) (sh := 18) (i := 2) (k := 2) (c := 102) (lo := 0) (hi' := 99) (fu := nf + 1) ku ne nu hn o3 o10 (fun v => decide (v ≤ 99)) (by omega) (by omega) (by decide) (by decide) (by decide) (by omega) (fun v H h1 h2 => cnb_f h1 h2) k99 with st4 | ⟨z, q1, q2, z99, i1, i2, a5, b5, kd5, f5, p5, i3, i4, i5, i6, i7, i8, i9, i10, i11, i12⟩
      · exact (LO.no (b := b) st4 (fun h => by rw [if_pos rfl])).pre (Nat.le_refl _) (w11.up.tr o11.up) ((w12.up (by decide)).tr (o12.up (by decide)))
      · have ex : f5_readLine_L55 K1 n r (nI 5) 18 (nf + 1) (nI (2 + 1)) q1 = f5_readLine_J141 K1 n r (nI 5) q1 := by
          rw [f5_readLine_L55, if_pos (show slen 18 ≤ nI (2 + 1) by decide)]
        rw [i1, i2, x_bd, if_neg b_10, ex]
        have row : ∀ p, q2.1 (m + 9) p = h2.1 (m + 9) p := fun p => by rw [i12.a (by omega) (by decide), o12.a (by omega) (by decide), w12.a (by omega) (by decide)]
        obtain ⟨c2, c3, c4, b1, b2', b3', b4', b5', b6⟩ := B
        obtain ⟨G, g1, g2, g3, g4, g5⟩ := m_keepRow (K2 := K2) (n := n) (m := m) (c := 4) (fr := 104) (w := 3) (mo := 6) (q := c4) (by omega) (by omega) (by omega) (by omega) b3' (by omega) hn q2 (by rw [row]; exact b6)
        rw [g1, x_bp, x_bd]
        have BG : NB m G := ⟨c2, c3, min 6 (c4 + 1), b1, b2', by omega, by rw [g5 2 (by omega) (by omega), row]; exact b4', by rw [g5 3 (by omega) (by omega), row]; exact b5', g3⟩
        refine (net_end (K1 := K1) (K2 := K2) ku ne nu hu hn i3 i10 g2 BG (vb := nI 5) (fun f0 => ?_) r2).pre (show b ≤ b5 by omega) (w11.up.tr (o11.up.tr i11.up)) ((w12.up (by decide)).tr ((o12.up (by decide)).tr (i12.up (by decide))))
        obtain ⟨t4, t2, t3⟩ := i5 f0
        obtain ⟨t7, ⟨wd, wd1, wd2, wd3⟩, t9⟩ := o5 t4
        obtain ⟨u1, u2, u3⟩ := w5 t7
        obtain ⟨N, N1, N2, N3⟩ := SN u1
        have l12 := h6 u1 N N1 N3
        have hv := of_decide_eq_true u2
        have hz := of_decide_eq_true t2
        have P := N3.up (show hi ≤ max hi v by omega)
        have cN3 : c4 = N 4 := by
          have := N2 4 (by omega)
          rw [b6, x_eq (by omega) (by omega)] at this
          exact this
        subst cN3
        have m0 : q2.1 (m + 10) 0 = nI v := by rw [i9 0 (by omega)]; exact z0
        have m1 : q2.1 (m + 10) 1 = nI wd := by rw [i9 1 (by omega), o8 (Or.inr t4)]; exact wd3
        have m3 : q2.1 (m + 10) 2 = nI z := i8 (Or.inl rfl)
        have d0 : q1.1 (r + 21) 0 = nI v := by rw [i7 0 (by omega)]; exact c0
        have d1 : q1.1 (r + 21) 1 = nI wd := by rw [i7 1 (by omega), o6]; exact wd3
        obtain ⟨l1, l2, l3, l5⟩ := nSv_r (N := N) (x := v) (w := wd) (z := z)
        refine ⟨nSv N v wd z, nSv_P l12 P ⟨hv, by omega⟩ ⟨wd1, wd2⟩ hz, fun q hq => ?_, fun p1 fr => ?_⟩
        · by_cases q3 : q = 4
          · rw [q3, g3, l1, show min 6 (N 4 + 1) = N 4 + 1 by omega]
          · by_cases qa : q = 104 + 3 * N 4
            · rw [qa, l2]; exact (g4 l12 0 (by omega)).trans m0
            · by_cases qb : q = 105 + 3 * N 4
              · rw [qb, l3]; have := g4 l12 1 (by omega); rw [show 104 + 3 * N 4 + 1 = 105 + 3 * N 4 by omega] at this; rw [this, m1]
              · by_cases qd : q = 106 + 3 * N 4
                · rw [qd, l5]; have := g4 l12 2 (by omega); rw [show 104 + 3 * N 4 + 2 = 106 + 3 * N 4 by omega] at this; rw [this, m3]
                · rw [g5 q q3 (by omega), nSv_o q3 (by omega), row]; exact N2 q hq
        · have vp : vN (r + 1) p1 N := N1.kp (fun a k ha hb => by rw [fr.2 _ _ (by omega), i11.2 _ _ (by omega) (by omega), o11.2 _ _ (by omega) (by omega), w11.2 _ _ (by omega) (by omega)])
          have pp : ∀ k, p1.1 (r + 21) k = q1.1 (r + 21) k := fun k => fr.2 _ _ (by omega)
          obtain ⟨p1', s1, s2, s3, s4⟩ := c_addServe (K := K1) (n := n) (x := v) (w := wd) (z := z) l12 P vp
          refine ⟨p1', ?_, s2, fun a k ha => s3 a k (by omega), s4⟩
          unfold f5_tell
          rw [if_neg (show ¬ nI 5 = (0 : Int32) by decide), if_neg (show ¬ nI 5 = (1 : Int32) by decide), if_neg (show ¬ nI 5 = (2 : Int32) by decide), if_neg (show ¬ nI 5 = (3 : Int32) by decide), if_neg (show ¬ nI 5 = (4 : Int32) by decide), if_pos (show nI 5 = (5 : Int32) from rfl), show (0 : Int32).toNatClampNeg = 0 from rfl, show (1 : Int32).toNatClampNeg = 1 from rfl, show (2 : Int32).toNatClampNeg = 2 from rfl, pp, pp, pp, d0, d1, i6, s1, x_bp]
end NetM
