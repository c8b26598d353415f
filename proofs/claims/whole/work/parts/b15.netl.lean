/-! reading: the lines of a net -/
def NB (m : Nat) (h2 : Hp) : Prop := ∃ c2 c3 c4, c2 ≤ 15 ∧ c3 ≤ 12 ∧ c4 ≤ 6 ∧ h2.1 (m + 9) 2 = nI c2 ∧ h2.1 (m + 9) 3 = nI c3 ∧ h2.1 (m + 9) 4 = nI c4
def NGn (r m hi f : Nat) (h1 h2 : Hp) : Prop := NB m h2 ∧ (f = 0 → ∃ N, vN (r + 1) h1 N ∧ (∀ p, p < 122 → h2.1 (m + 9) p = nI (N p)) ∧ nP N hi)
section NetE
variable {K1 K2 : Ly} {n r u m l a b kd f p hi : Nat} {h1 h2 g2 : Hp} {t : Nat → Int32}
theorem net_end (ku : K1 u = some (.inr (1, 600))) (ne : r ≠ u) (nu : u ≠ r + 21) (hu : ¬ (r + 1 ≤ u ∧ u ≤ r + 20)) (hn : 5000 ≤ n) (L : LnS r u m t l a b kd 0 f p h1 h2) (hh : HN r m hi h1 h2) (c1 : ChM [9] m h2 g2) (B : NB m g2) {vb : Int32}
    (D : f = 0 → ∃ N', nP N' hi ∧ (∀ p, p < 122 → g2.1 (m + 9) p = nI (N' p)) ∧ ∀ p1, FrC r h1 p1 → ∃ p1', f5_tell K1 n r vb p1 = some p1' ∧ p1'.2 = p1.2 ∧ (∀ a k, ¬ (r + 1 ≤ a ∧ a ≤ r + 20) → p1'.1 a k = p1.1 a k) ∧ vN (r + 1) p1' N') (r2 : Int32 → Hp → Option (Int32 × Hp)) :
    LO r u m t l 0 b (fun hi f => NGn r m hi f) r2 h1 h2 (f5_readLine_J141 K1 n r vb h1) (f11_allLines_J77 K2 n r2 m 0 1 g2) := by
  have L2 := L.k2 c1 (by decide)
  have H2 : HN r m hi h1 g2 := hh.kp rfl (c1.f (by decide))
  rcases both_le (K1 := K1) (K2 := K2) ku ne nu hn L2 (vb := vb) (S := 0) r2 with ⟨p1, p2, w1, w2, w3, w4, w5⟩ | ⟨a', b', kd', p1, p2, w1, w2, w3, w4, w5, w6⟩
  · exact Or.inl ⟨b, p1, p2, w1, w2, w3, w4.up, (c1.up (by decide)).tr (w5.up (by decide))⟩
  · refine Or.inr ?_
    have H3 : HN r m hi p1 p2 := H2.kp (w5.2 _ _ (by omega)) (w6.f (by decide))
    have row : ∀ p, p2.1 (m + 9) p = g2.1 (m + 9) p := fun p => w6.a (by omega) (by decide) p
    have B2 : NB m p2 := by
      obtain ⟨c2, c3, c4, b1, b2, b3, b4, b5, b6⟩ := B
      exact ⟨c2, c3, c4, b1, b2, b3, by rw [row]; exact b4, by rw [row]; exact b5, by rw [row]; exact b6⟩
    by_cases f0 : f = 0
    · obtain ⟨N', n1, n2, n3⟩ := D f0
      obtain ⟨p1', t1, t2, t3, t4⟩ := n3 p1 w5
      refine ⟨a', b', kd', f, p, hi, p1', p2, by rw [w1, if_pos f0, t1, x_bp], w2, w3.k1 t2 t3 hu, w4, H3.kp (t3 _ _ (by omega)) rfl, ⟨B2, fun _ => ⟨N', t4, fun p hp => by rw [row]; exact n2 p hp, n1⟩⟩, w5.up.up.tr ⟨t2, fun a k ha => t3 a k (by omega)⟩, (c1.up (by decide)).tr (w6.up (by decide))⟩
    · exact ⟨a', b', kd', f, p, hi, p1, p2, by rw [w1, if_neg f0], w2, w3, w4, H3, ⟨B2, fun hh => absurd hh f0⟩, w5.up.up, (c1.up (by decide)).tr (w6.up (by decide))⟩
/-- what stands before the arguments of a net's line -/
def NS (r m f hi : Nat) (h1 h2 : Hp) : Prop := h2.1 m 21 = 1 ∧ NB m h2 ∧ (f = 0 → ∃ N, vN (r + 1) h1 N ∧ (∀ p, p < 122 → h2.1 (m + 9) p = nI (N p)) ∧ nP N hi)
variable {vb : Nat}
/-- nodes, life -/
theorem net_01 (ku : K1 u = some (.inr (1, 600))) (ne : r ≠ u) (nu : u ≠ r + 21) (hu : ¬ (r + 1 ≤ u ∧ u ≤ r + 20)) (hn : 5000 ≤ n) (L : LnS r u m t l a b kd 0 f p h1 h2) (hh : HN r m hi h1 h2) (S : NS r m f hi h1 h2) (hv : vb < 2) {w : Int64} (hw : (lg_cmp w (474315253107 : Int64) = 0) ↔ vb = 0) (r2 : Int32 → Hp → Option (Int32 × Hp)) :
    LO r u m t l 0 b (fun hi f => NGn r m hi f) r2 h1 h2 (f5_readLine_L55 K1 n r (nI vb) (13 + vb) n 0 h1) (bd (f11_netLine_J38 K2 n m w m (0 : Int32) (1 : Int32) (if (lg_cmp w (474315253107 : Int64)) = 0 then (6 : Int32) else (99 : Int32)) h2) fun y h => f11_allLines_J77 K2 n r2 m 0 y h) := by
  obtain ⟨nf, hnf⟩ : ∃ g, n = g + 1 + 1 + 1 := ⟨n - 3, by omega⟩
  obtain ⟨s21, B, SN⟩ := S
  have elo : (if lg_cmp w (474315253107 : Int64) = 0 then (6 : Int32) else (99 : Int32)) = nI (if vb = 0 then 6 else 99) := by
    by_cases h0 : vb = 0
    · rw [if_pos (hw.mpr h0), if_pos h0]; rfl
    · rw [if_neg (fun hh => h0 (hw.mp hh)), if_neg h0]; rfl
  have eof : (if lg_cmp w (474315253107 : Int64) = 0 then (0 : Int32) else (1 : Int32)) = nI vb := by
    by_cases h0 : vb = 0
    · rw [if_pos (hw.mpr h0), h0]; rfl
    · rw [if_neg (fun hh => h0 (hw.mp hh)), show vb = 1 by omega]; rfl
  have eL : f5_readLine_L55 K1 n r (nI vb) (13 + vb) n (0 : Int32) h1 = f5_readLine_L55 K1 n r (nI vb) (13 + vb) (nf + 1 + 1 + 1) (nI 0) h1 := by rw [← hnf]; rfl
  have mK : f11_netLine_J38 K2 n m w m (0 : Int32) (1 : Int32) (if (lg_cmp w (474315253107 : Int64)) = 0 then (6 : Int32) else (99 : Int32)) h2 = (bd (f11_take K2 n m (nI 0) (nI 1) (nI (if vb = 0 then 6 else 99)) h2) fun y47 h46 => if y47 = 0 then some ((0 : Int32), h46) else f11_netLine_J59 K2 n m (nI vb) h46) := by
    unfold f11_netLine_J38
    rw [elo, eof]; rfl
  rw [eL, mK]
  have st := arg_num (K1 := K1) (K2 := K2) (n := n) (vb := nI vb) (sh := 13 + vb) (i := 0) (k := 0) (c := if vb = 0 then 99 else 108) (lo := nI 1) (hi' := nI (if vb = 0 then 6 else 99)) (fu := nf + 1 + 1) ku ne nu hn L hh (fun v => decide (1 ≤ v ∧ v ≤ (if vb = 0 then 6 else 99))) (by omega) (by omega) (by rcases (show vb = 0 ∨ vb = 1 by omega) with rfl | rfl <;> decide) (by rcases (show vb = 0 ∨ vb = 1 by omega) with rfl | rfl <;> decide) (by rcases (show vb = 0 ∨ vb = 1 by omega) with rfl | rfl <;> decide) (by split <;> omega) (fun v H h1 h2 => by
      by_cases h0 : vb = 0
      · rw [if_pos h0, if_pos h0]; exact cnb_c h1 h2
      · rw [if_neg h0, if_neg h0, cnb_l h1 h2]
        have : decide (1 ≤ v) = decide (1 ≤ v ∧ v ≤ 99) := by simp [h1]
        rw [this]) (fun v hv => in_b hv (by omega) (by split <;> omega))
  rcases st with st | ⟨v, y1, y2, v99, w1, w2, a2, b2, kd2, f2, p2, w3, w4, w5, w6, w7, w8, w9, w10, w11, w12⟩
  · exact LO.no (b := b) st (fun h => by rw [if_pos rfl])
  · have ex : f5_readLine_L55 K1 n r (nI vb) (13 + vb) (nf + 1 + 1) (nI (0 + 1)) y1 = f5_readLine_J141 K1 n r (nI vb) y1 := by
      rw [f5_readLine_L55, if_pos (show slen (13 + vb) ≤ nI (0 + 1) by rcases (show vb = 0 ∨ vb = 1 by omega) with rfl | rfl <;> decide)]
    rw [w1, w2, x_bd, if_neg b_10, ex]
    have row : ∀ p, y2.1 (m + 9) p = h2.1 (m + 9) p := fun p => w12.a (by omega) (by decide) p
    have r0 : y2.1 (m + 10) 0 = nI v := w8 (Or.inl rfl)
    obtain ⟨x, hx, hx0⟩ : ∃ x : Int32, f11_netLine_J59 K2 n m (nI vb) y2 = some (1, sI y2 (m + 9) vb x) ∧ (y2.1 m 21 = 1 → x = nI v) := by
      unfold f11_netLine_J59 f11_netLine_J90
      rw [x_in (show vb < 122 by omega) (by omega), x_gd, x_gd, x_gd, x_lt, x_lt, x_cl (by omega), show (0 : Int32).toNatClampNeg = 0 from rfl, r0]
      by_cases g0 : y2.1 m 21 = 0
      · exact ⟨_, by rw [if_pos g0], fun hh => by rw [hh] at g0; exact absurd g0 b_10⟩
      · exact ⟨_, by rw [if_neg g0], fun _ => rfl⟩
    rw [hx, x_bd]
    have c1 : ChM [9] m y2 (sI y2 (m + 9) vb x) := ChM.A (by omega) (by simp) ChM.rf
    have B2 : NB m (sI y2 (m + 9) vb x) := by
      obtain ⟨c2, c3, c4, b1, b2, b3, b4, b5, b6⟩ := B
      exact ⟨c2, c3, c4, b1, b2, b3, by rw [rI_n (by omega), row]; exact b4, by rw [rI_n (by omega), row]; exact b5, by rw [rI_n (by omega), row]; exact b6⟩
    refine (net_end (K1 := K1) (K2 := K2) ku ne nu hu hn w3 w10 c1 B2 (vb := nI vb) (fun f0 => ?_) r2).pre (show b ≤ b2 by omega) w11.up (w12.up (by decide))
    obtain ⟨u1, u2, u3⟩ := w5 f0
    have xe := hx0 (by rw [u3]; exact s21)
    obtain ⟨N, N1, N2, N3⟩ := SN u1
    have ok := of_decide_eq_true u2
    refine ⟨uN N vb v, nP_u (Or.inl hv) (fun h0 => by rw [if_pos h0] at ok; exact ok) (fun h0 => by rw [if_neg (by omega)] at ok; exact ok) (fun h0 => by omega) N3, fun q hq => ?_, fun p1 fr => ?_⟩
    · by_cases hqv : q = vb
      · rw [hqv, rI_e, uN_e, xe]
      · rw [rI_n (by omega), uN_n hqv, row]; exact N2 q hq
    · have vp : vN (r + 1) p1 N := N1.kp (fun a k ha hb => by rw [fr.2 _ _ (by omega), w11.2 _ _ (by omega) (by omega)])
      have pa : p1.1 (r + 21) 0 = nI v := by rw [fr.2 _ _ (by omega)]; exact w6
      refine ⟨sI p1 (r + 1) vb (nI v), ?_, rfl, fun a k ha => rI_n (by omega), vN_01 hv vp⟩
      unfold f5_tell
      rw [show (0 : Int32).toNatClampNeg = 0 from rfl, pa]
      rcases (show vb = 0 ∨ vb = 1 by omega) with rfl | rfl
      · rw [if_pos (show nI 0 = (0 : Int32) from rfl), x_lt]
      · rw [if_neg (show ¬ nI 1 = (0 : Int32) by decide), if_pos (show nI 1 = (1 : Int32) from rfl), x_lt]
/-- a room -/
theorem net_2 (ku : K1 u = some (.inr (1, 600))) (ne : r ≠ u) (nu : u ≠ r + 21) (hu : ¬ (r + 1 ≤ u ∧ u ≤ r + 20)) (hn : 5000 ≤ n) (L : LnS r u m t l a b kd 0 f p h1 h2) (hh : HN r m hi h1 h2) (S : NS r m f hi h1 h2) (r2 : Int32 → Hp → Option (Int32 × Hp)) :
    LO r u m t l 0 b (fun hi f => NGn r m hi f) r2 h1 h2 (f5_readLine_L55 K1 n r (nI 2) 15 n 0 h1) (bd (bd (f11_takeNode K2 n m (0 : Int32) (-1 : Int32) h2) fun y8 h7 => if y8 = 0 then some ((0 : Int32), h7) else bd (f11_take K2 n m (1 : Int32) (0 : Int32) (4 : Int32) h7) fun y12 h11 => if y12 = 0 then some ((0 : Int32), h11) else if (h11.1 m 21) = 0 then some ((1 : Int32), h11) else gd (inb ((5 : Int32) + (h11.1 (m + 10) (0 : Int32).toNatClampNeg)) 122) <| lt (sI h11 (m + 9) ((5 : Int32) + (h11.1 (m + 10) (0 : Int32).toNatClampNeg)).toNatClampNeg (h11.1 (m + 10) (1 : Int32).toNatClampNeg)) fun h16 => some ((1 : Int32), h16)) fun y h => f11_allLines_J77 K2 n r2 m 0 y h) := by
  obtain ⟨nf, hnf⟩ : ∃ g, n = g + 1 + 1 + 1 := ⟨n - 3, by omega⟩
  obtain ⟨s21, B, SN⟩ := S
  have eL : f5_readLine_L55 K1 n r (nI 2) 15 n (0 : Int32) h1 = f5_readLine_L55 K1 n r (nI 2) 15 (nf + 1 + 1 + 1) (nI 0) h1 := by rw [← hnf]; rfl
  rw [eL]
  rcases arg_node (K1 := K1) (K2 := K2) (n := n) (vb := nI 2) (sh := 15) (i := 0) (k := 0) (c := 110) (but := -1) (fu := nf + 1 + 1) ku ne nu hn L hh (fun v => decide (v < 6)) (by omega) (by omega) (by decide) (by decide) (by decide) (by omega) (fun v H h1 h2 _ => cnb_n h1 h2) n_ok with st | ⟨v, y1, y2, v99, w1, w2, a2, b2, kd2, f2, p2, w3, w4, w5, w6, w7, w8, w9, w10, w11, w12⟩
  · exact LO.no (b := b) st (fun h => by rw [if_pos rfl])
  · have w2 : f11_takeNode K2 n m (0 : Int32) (-1 : Int32) h2 = some (1, y2) := w2
    rw [w1, w2, x_bd, if_neg b_10]
    have k4 : ∀ v : Nat, v ≤ 99 → (decide (v ≤ 4) = true ↔ ¬ f11_in (nI v) (0 : Int32) (4 : Int32) = 0) := fun v hv => by
      have := in_b (v := v) (lo := 0) (hi := 4) hv (by omega) (by omega)
      rw [show f11_in (nI v) (0 : Int32) (4 : Int32) = f11_in (nI v) (nI 0) (nI 4) from rfl, ← this]
      simp
    rcases arg_num (K1 := K1) (K2 := K2) (n := n) (vb := nI 2) (sh := 15) (i := 1) (k := 1) (c := 114) (lo := 0) (hi' := 4) (fu := nf + 1) ku ne nu hn w3 w10 (fun v => decide (v ≤ 4)) (by omega) (by omega) (by decide) (by decide) (by decide) (by omega) (fun v H h1 h2 => cnb_r h1 h2) k4 with st2 | ⟨v', z1, z2, v99', o1, o2, a3, b3, kd3, f3, p3, o3, o4, o5, o6, o7, o8, o9, o10, o11, o12⟩
    · exact (LO.no (b := b) st2 (fun h => by rw [if_pos rfl])).pre (Nat.le_refl _) w11.up (w12.up (by decide))
    · have o2 : f11_take K2 n m (1 : Int32) (0 : Int32) (4 : Int32) y2 = some (1, z2) := o2
      have ex : f5_readLine_L55 K1 n r (nI 2) 15 (nf + 1) (nI (1 + 1)) z1 = f5_readLine_J141 K1 n r (nI 2) z1 := by
        rw [f5_readLine_L55, if_pos (show slen 15 ≤ nI (1 + 1) by decide)]
      rw [o1, o2, x_bd, if_neg b_10, ex]
      have row : ∀ p, z2.1 (m + 9) p = h2.1 (m + 9) p := fun p => by rw [o12.a (by omega) (by decide), w12.a (by omega) (by decide)]
      have r0 : z2.1 (m + 10) 0 = nI v := by rw [o9 0 (by omega)]; exact w8 (Or.inl rfl)
      have r1 : z2.1 (m + 10) 1 = nI v' := o8 (Or.inl rfl)
      have q0 : z1.1 (r + 21) 0 = nI v := by rw [o7 0 (by omega)]; exact w6
      have e5 : (5 : Int32) + nI v = nI (5 + v) := by rw [l_5, nI_add]
      have B2 : NB m z2 := by
        obtain ⟨c2, c3, c4, b1, b2, b3, b4, b5, b6⟩ := B
        exact ⟨c2, c3, c4, b1, b2, b3, by rw [row]; exact b4, by rw [row]; exact b5, by rw [row]; exact b6⟩
      by_cases g0 : z2.1 m 21 = 0
      · rw [if_pos g0, x_bd]
        refine (net_end (K1 := K1) (K2 := K2) ku ne nu hu hn o3 o10 ChM.rf B2 (vb := nI 2) (fun f0 => ?_) r2).pre (show b ≤ b3 by omega) (w11.up.tr o11.up) ((w12.up (by decide)).tr (o12.up (by decide)))
        obtain ⟨t1, t2, t3⟩ := o5 f0
        obtain ⟨u1, u2, u3⟩ := w5 t1
        rw [t3, u3, s21] at g0
        exact absurd g0 b_10
      · rw [if_neg g0, show (0 : Int32).toNatClampNeg = 0 from rfl, show (1 : Int32).toNatClampNeg = 1 from rfl, r0, r1, e5, x_in (show 5 + v < 122 by omega) (by omega), x_gd, x_lt, x_cl (by omega), x_bd]
        have c1 : ChM [9] m z2 (sI z2 (m + 9) (5 + v) (nI v')) := ChM.A (by omega) (by simp) ChM.rf
        have B3 : NB m (sI z2 (m + 9) (5 + v) (nI v')) := by
          obtain ⟨c2, c3, c4, b1, b2, b3, b4, b5, b6⟩ := B2
          exact ⟨c2, c3, c4, b1, b2, b3, by rw [rI_n (by omega)]; exact b4, by rw [rI_n (by omega)]; exact b5, by rw [rI_n (by omega)]; exact b6⟩
        refine (net_end (K1 := K1) (K2 := K2) ku ne nu hu hn o3 o10 c1 B3 (vb := nI 2) (fun f0 => ?_) r2).pre (show b ≤ b3 by omega) (w11.up.tr o11.up) ((w12.up (by decide)).tr (o12.up (by decide)))
        obtain ⟨t1, t2, t3⟩ := o5 f0
        obtain ⟨u1, u2, u3⟩ := w5 t1
        obtain ⟨N, N1, N2, N3⟩ := SN u1
        have ok := of_decide_eq_true u2
        have ok' := of_decide_eq_true t2
        refine ⟨uN N (5 + v) v', nP_u (Or.inr (by omega)) (fun h0 => by omega) (fun h0 => by omega) (fun _ => ok') (N3.up (by omega)), fun q hq => ?_, fun p1 fr => ?_⟩
        · by_cases hqv : q = 5 + v
          · rw [hqv, rI_e, uN_e]
          · rw [rI_n (by omega), uN_n hqv, row]; exact N2 q hq
        · have vp : vN (r + 1) p1 N := N1.kp (fun a k ha hb => by rw [fr.2 _ _ (by omega), o11.2 _ _ (by omega) (by omega), w11.2 _ _ (by omega) (by omega)])
          have pa : p1.1 (r + 21) 0 = nI v := by rw [fr.2 _ _ (by omega)]; exact q0
          have pb : p1.1 (r + 21) 1 = nI v' := by rw [fr.2 _ _ (by omega)]; exact o6
          refine ⟨sI p1 (r + 1 + 1) v (nI v'), ?_, rfl, fun a k ha => rI_n (by omega), vN_room ok vp⟩
          unfold f5_tell
          rw [if_neg (show ¬ nI 2 = (0 : Int32) by decide), if_neg (show ¬ nI 2 = (1 : Int32) by decide), if_pos (show nI 2 = (2 : Int32) from rfl), show (0 : Int32).toNatClampNeg = 0 from rfl, show (1 : Int32).toNatClampNeg = 1 from rfl, pa, pb, x_in ok (by omega), x_gd, x_lt, x_cl (by omega)]
end NetE
