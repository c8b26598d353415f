section NetN
variable {K1 K2 : Ly} {n r u m l a b kd f p hi : Nat} {h1 h2 : Hp} {t : Nat → Int32}
theorem one_f {r : Nat} {h1 : Hp} (s6 : h1.1 r 6 = nI 0) : (∀ vb : Nat, vb < 4 → ((f5_isOneTooMany r (nI vb) h1 = 0) ↔ ¬ False)) ∧ ((f5_isOneTooMany r (nI 4) h1 = 0) ↔ ¬ ((12 : Int32) ≤ h1.1 (r + 1) 3)) ∧ ((f5_isOneTooMany r (nI 5) h1 = 0) ↔ ¬ ¬ (h1.1 (r + 1) 4 < (6 : Int32))) := by
  have z1 : ¬ nI 0 = (1 : Int32) := by decide
  have z2 : ¬ nI 0 = (2 : Int32) := by decide
  refine ⟨fun vb hv => ?_, ?_, ?_⟩
  · unfold f5_isOneTooMany
    rw [s6, if_neg z1, if_neg z2]
    have e4 : ¬ nI vb = (4 : Int32) := by rw [l_4, x_eq (by omega) (by omega)]; omega
    have e5 : ¬ nI vb = (5 : Int32) := by rw [l_5, x_eq (by omega) (by omega)]; omega
    rw [if_neg e4, if_neg e5]
    exact ⟨fun _ hh => hh, fun _ => rfl⟩
  · unfold f5_isOneTooMany
    rw [s6, if_neg z1, if_neg z2, if_pos (show nI 4 = (4 : Int32) from rfl), if_neg (show ¬ nI 4 = (5 : Int32) by decide)]
    by_cases hc : (12 : Int32) ≤ h1.1 (r + 1) 3
    · rw [if_pos hc]; exact ⟨fun hh => absurd hh b_10, fun hh => absurd hc hh⟩
    · rw [if_neg hc]; exact ⟨fun _ => hc, fun _ => rfl⟩
  · unfold f5_isOneTooMany
    rw [s6, if_neg z1, if_neg z2, if_neg (show ¬ nI 5 = (4 : Int32) by decide), if_pos (show nI 5 = (5 : Int32) from rfl)]
    by_cases hc : h1.1 (r + 1) 4 < (6 : Int32)
    · rw [if_pos hc]; exact ⟨fun _ hh => hh hc, fun _ => rfl⟩
    · rw [if_neg hc]; exact ⟨fun hh => absurd hh b_10, fun hh => absurd hc hh⟩
theorem net_line (ku : K1 u = some (.inr (1, 600))) (ne : r ≠ u) (nu : u ≠ r + 21) (hu : ¬ (r + 1 ≤ u ∧ u ≤ r + 20)) (hn : 5000 ≤ n) (L : LnS r u m t l a b kd 0 f p h1 h2) (k0 : kd ≠ 0) (hh : HN r m hi h1 h2) (D : NGn r m hi f h1 h2) (r2 : Int32 → Hp → Option (Int32 × Hp)) :
    LO r u m t l 0 b (fun hi f => NGn r m hi f) r2 h1 h2 (f5_readLine K1 n r h1) (bd (f11_netLine K2 n m (mw h2 m) (nI b) (sI h2 m 21 1)) fun y h => f11_allLines_J77 K2 n r2 m 0 y h) := by
  have c21 : ChM [121] m h2 (sI h2 m 21 1) := ChM.F (by simp) ChM.rf
  have Lg := L.k2 c21 (by decide)
  have T := Lg.1
  have bl := T.bl
  have l6 := T.1.1
  obtain ⟨B, DN⟩ := D
  have s6 : h1.1 r 6 = nI 0 := L.2.1
  have c0 : (lg_cmp (mw h2 m) (474315253107 : Int64) = 0) ↔ (kd = 1 ∧ isV' t b (a - b) 0) := mw_v L (v := 0) (by omega)
  have c1 : (lg_cmp (mw h2 m) (1818846821 : Int64) = 0) ↔ (kd = 1 ∧ isV' t b (a - b) 1) := mw_v L (v := 1) (by omega)
  have c2 : (lg_cmp (mw h2 m) (1919905645 : Int64) = 0) ↔ (kd = 1 ∧ isV' t b (a - b) 2) := mw_v L (v := 2) (by omega)
  have c3 : (lg_cmp (mw h2 m) (1818848875 : Int64) = 0) ↔ (kd = 1 ∧ isV' t b (a - b) 3) := mw_v L (v := 3) (by omega)
  have c4 : (lg_cmp (mw h2 m) (491496240229 : Int64) = 0) ↔ (kd = 1 ∧ isV' t b (a - b) 4) := mw_v L (v := 4) (by omega)
  have c5 : (lg_cmp (mw h2 m) (495623239269 : Int64) = 0) ↔ (kd = 1 ∧ isV' t b (a - b) 5) := mw_v L (v := 5) (by omega)
  have refuse : (∀ v, v < 6 → ¬ (kd = 1 ∧ isV' t b (a - b) v)) → (kd ≠ 1 ∨ f5_verbHere K1 n r h1 = some (-1)) → LO r u m t l 0 b (fun hi f => NGn r m hi f) r2 h1 h2 (f5_readLine K1 n r h1) (bd (f11_netLine K2 n m (mw h2 m) (nI b) (sI h2 m 21 1)) fun y h => f11_allLines_J77 K2 n r2 m 0 y h) := fun nv n3 => by
    obtain ⟨p1, p2, g1, g2, g3, g4, g5⟩ := both_ref (K1 := K1) (K2 := K2) (n := n) T
    refine Or.inl ⟨b, p1, p2, ?_, ?_, g3, g4.up, (c21.up (by decide)).tr (g5.up (by decide))⟩
    · rw [c_noverb L n3, g1, x_bp]
    · unfold f11_netLine
      rw [if_neg (fun hh => nv 0 (by omega) (c0.mp hh)), if_neg (fun hh => nv 1 (by omega) (c1.mp hh)), if_neg (fun hh => nv 2 (by omega) (c2.mp hh)), if_neg (fun hh => nv 3 (by omega) (c3.mp hh)), if_neg (fun hh => nv 4 (by omega) (c4.mp hh)), if_neg (fun hh => nv 5 (by omega) (c5.mp hh)), g2, x_bd, show isB (0 : Int32) = true by decide, x_gd, x_bd, J77_0]
  by_cases h1d : kd = 1
  · subst h1d
    obtain ⟨vb, v1, v2, v3⟩ := c_verbL (K1 := K1) ku hn L.1 (s := 0) (lo := 0) (hi := 6) (by omega) s6 rfl rfl (by omega) (by omega)
    cases vb with
    | none => exact refuse (fun v hv hh => v3 rfl v (by omega) hv hh.2) (Or.inr v1)
    | some vb =>
      obtain ⟨x1, x2, x3⟩ := v2 vb rfl
      have no : ∀ v, v < 13 → v ≠ vb → ¬ ((1 : Nat) = 1 ∧ isV' t b (a - b) v) := fun v hv hne hh => hne (isV_u hv (by omega) hh.2 x3)
      obtain ⟨oA, oB, oC⟩ := one_f (r := r) (h1 := h1) s6
      have row : ∀ p, (sI h2 m 21 1).1 (m + 9) p = h2.1 (m + 9) p := fun p => rI_n (by omega)
      -- behind the head
      have mkS : ∀ {f1 : Nat} {g1 g2 : Hp}, (f1 = 0 → f = 0) → (∀ a k, ¬ (a = r ∧ 7 ≤ k ∧ k ≤ 13 ∧ k ≠ 11) → g1.1 a k = h1.1 a k) → ChM [109, 111, 112, 113, 114, 116, 117] m (sI h2 m 21 1) g2 → NS r m f1 hi g1 g2 ∧ HN r m hi g1 g2 := fun hf e9 e10 => by
        have rw' : ∀ p, _ := fun p => (e10.a (by omega) (by decide) p : _ = (sI h2 m 21 1).1 (m + 9) p)
        refine ⟨⟨by rw [e10.f (by decide), rI_e], ?_, fun f0 => ?_⟩, hh.kp (e9 _ _ (by omega)) (by rw [e10.f (by decide), rI_n (by omega)])⟩
        · obtain ⟨d2, d3, d4, b1, b2, b3, b4, b5, b6⟩ := B
          exact ⟨d2, d3, d4, b1, b2, b3, by rw [rw', row]; exact b4, by rw [rw', row]; exact b5, by rw [rw', row]; exact b6⟩
        · obtain ⟨N, N1, N2, N3⟩ := DN (hf f0)
          exact ⟨N, N1.kp (fun a k ha hb => e9 _ _ (by omega)), fun p hp => by rw [rw', row]; exact N2 p hp, N3⟩
      rw [c_verb L v1]
      by_cases hv4 : vb < 4
      · rw [c_head (A := False) (by omega) (oA vb hv4) L.1.2.1]
        obtain ⟨a1, b1, kd1, f1, p1, P, Q, g1, g2, j1, j2, j3, j4, j5, j6, j7, j8, j9, j10⟩ := both_head (K1 := K1) (K2 := K2) ku ne nu hn Lg (by omega) (A := False) (B := False) (fun _ => Iff.rfl)
        rw [j1, x_bp, f5_readLine_J44, j2, x_bp]
        rw [if_neg (fun hh => hh)] at j3
        have j3 : sI h2 m 21 1 = Q := Option.some.inj j3
        rw [← j3] at j4
        obtain ⟨S, H⟩ := mkS (fun h0 => (j7 h0).1) j9 j10
        have base1 : FrL r h1 g1 := ⟨j8, fun a k ha => j9 a k (by omega)⟩
        have base2 : ChM RTl m h2 g2 := (c21.up (by decide)).tr (j10.up (by decide))
        rcases (show vb < 2 ∨ vb = 2 ∨ vb = 3 by omega) with hv | hv | hv
        · have shp : f5_shapeOf (nI vb) = 13 + vb := by rcases (show vb = 0 ∨ vb = 1 by omega) with rfl | rfl <;> decide
          have mJ : f11_netLine K2 n m (mw h2 m) (nI b) (sI h2 m 21 1) = f11_netLine_J38 K2 n m (mw h2 m) m (0 : Int32) (1 : Int32) (if (lg_cmp (mw h2 m) (474315253107 : Int64)) = 0 then (6 : Int32) else (99 : Int32)) g2 := by
            unfold f11_netLine f11_netLine_J16
            rw [j4, x_bp]
            rcases (show vb = 0 ∨ vb = 1 by omega) with rfl | rfl
            · rw [if_pos (c0.mpr ⟨rfl, x3⟩)]
            · rw [if_pos (c1.mpr ⟨rfl, x3⟩), ite_self]
          have hw : (lg_cmp (mw h2 m) (474315253107 : Int64) = 0) ↔ vb = 0 := by
            rw [c0]
            exact ⟨fun hh => isV_u (by omega) (by omega) x3 hh.2, fun hh => ⟨rfl, by rw [← hh]; exact x3⟩⟩
          rw [shp, mJ]
          exact (net_01 (K1 := K1) (K2 := K2) ku ne nu hu hn j5 H S hv hw r2).pre (by omega) base1 base2
        · subst hv
          have mJ : f11_netLine K2 n m (mw h2 m) (nI b) (sI h2 m 21 1) = (bd (f11_takeNode K2 n m (0 : Int32) (-1 : Int32) g2) fun y8 h7 => if y8 = 0 then some ((0 : Int32), h7) else bd (f11_take K2 n m (1 : Int32) (0 : Int32) (4 : Int32) h7) fun y12 h11 => if y12 = 0 then some ((0 : Int32), h11) else if (h11.1 m 21) = 0 then some ((1 : Int32), h11) else gd (inb ((5 : Int32) + (h11.1 (m + 10) (0 : Int32).toNatClampNeg)) 122) <| lt (sI h11 (m + 9) ((5 : Int32) + (h11.1 (m + 10) (0 : Int32).toNatClampNeg)).toNatClampNeg (h11.1 (m + 10) (1 : Int32).toNatClampNeg)) fun h16 => some ((1 : Int32), h16)) := by
            unfold f11_netLine
            rw [if_neg (fun hh => no 0 (by omega) (by omega) (c0.mp hh)), if_neg (fun hh => no 1 (by omega) (by omega) (c1.mp hh)), if_pos (c2.mpr ⟨rfl, x3⟩), j4, x_bp]
          rw [show f5_shapeOf (nI 2) = 15 by decide, mJ]
          exact (net_2 (K1 := K1) (K2 := K2) ku ne nu hu hn j5 H S r2).pre (by omega) base1 base2
        · subst hv
          have mJ : f11_netLine K2 n m (mw h2 m) (nI b) (sI h2 m 21 1) = (bd (f11_takeNode K2 n m (0 : Int32) (-1 : Int32) g2) fun y22 h21 => if y22 = 0 then some ((0 : Int32), h21) else bd (f11_takeNode K2 n m (1 : Int32) (h21.1 (m + 10) (0 : Int32).toNatClampNeg) h21) fun y26 h25 => if y26 = 0 then some ((0 : Int32), h25) else bd (f11_take K2 n m (2 : Int32) (1 : Int32) (9 : Int32) h25) fun y30 h29 => if y30 = 0 then some ((0 : Int32), h29) else if (h29.1 m 21) = 0 then some ((1 : Int32), h29) else bp (f11_keepLink K2 n m h29) fun h34 => some ((1 : Int32), h34)) := by
            unfold f11_netLine
            rw [if_neg (fun hh => no 0 (by omega) (by omega) (c0.mp hh)), if_neg (fun hh => no 1 (by omega) (by omega) (c1.mp hh)), if_neg (fun hh => no 2 (by omega) (by omega) (c2.mp hh)), if_pos (c3.mpr ⟨rfl, x3⟩), j4, x_bp]
          rw [show f5_shapeOf (nI 3) = 16 by decide, mJ]
          exact (net_3 (K1 := K1) (K2 := K2) ku ne nu hu hn j5 H S r2).pre (by omega) base1 base2
      · rcases (show vb = 4 ∨ vb = 5 by omega) with hv | hv
        · subst hv
          have hw : lg_cmp (mw h2 m) (491496240229 : Int64) = 0 := c4.mpr ⟨rfl, x3⟩
          rw [c_head (A := (12 : Int32) ≤ h1.1 (r + 1) 3) (by omega) oB L.1.2.1]
          have hAB : f = 0 → (((12 : Int32) ≤ h1.1 (r + 1) 3) ↔ ((sI h2 m 21 1).1 (m + 9) (3 : Int32).toNatClampNeg = (12 : Int32))) := fun f0 => by
            obtain ⟨N, N1, N2, N3⟩ := DN f0
            have z0 : (sI h2 m 21 1).1 (m + 9) (3 : Int32).toNatClampNeg = nI (N 3) := (row 3).trans (N2 3 (by omega))
            have n3 := N3.2.2.2.1
            rw [N1.1 3 (by omega), z0]
            have q1 : ((12 : Int32) ≤ nI (N 3)) = (12 ≤ N 3) := x_le (aa := 12) (by omega) (by omega)
            have q2 : (nI (N 3) = (12 : Int32)) = (N 3 = 12) := x_eq (ab := 12) (by omega) (by omega)
            rw [q1, q2]; omega
          obtain ⟨a1, b1, kd1, f1, p1, P, Q, g1, g2, j1, j2, j3, j4, j5, j6, j7, j8, j9, j10⟩ := both_head (K1 := K1) (K2 := K2) ku ne nu hn Lg (by omega) hAB
          rw [j1, x_bp, f5_readLine_J44, j2, x_bp]
          obtain ⟨S, H⟩ := mkS (fun h0 => (j7 h0).1) j9 j10
          have full : f11_full K2 n m (3 : Int32) (12 : Int32) (nI b) (sI h2 m 21 1) = some Q := by
            unfold f11_full
            rw [show inb (3 : Int32) 122 = true by decide, x_gd, ← j3]
            by_cases hc : (sI h2 m 21 1).1 (m + 9) (3 : Int32).toNatClampNeg = (12 : Int32)
            · rw [if_pos hc, if_pos hc]
              cases f11_addsFault K2 n m (3 : Int32) (nI b) (sI h2 m 21 1) <;> rfl
            · rw [if_neg hc, if_neg hc]
          have mJ : f11_netLine K2 n m (mw h2 m) (nI b) (sI h2 m 21 1) = (bd (f11_takeNode K2 n m (0 : Int32) (-1 : Int32) g2) fun y59 h58 => if y59 = 0 then some ((0 : Int32), h58) else bd (f11_takeName K2 n m (1 : Int32) h58) fun y63 h62 => if y63 = 0 then some ((0 : Int32), h62) else if (lg_cmp (mw h2 m) (491496240229 : Int64)) = 0 then (bd (f11_takeNode K2 n m (2 : Int32) (h62.1 (m + 10) (0 : Int32).toNatClampNeg) h62) fun y68 h67 => if y68 = 0 then some ((0 : Int32), h67) else f11_netLine_J312 K2 n m (mw h2 m) h67) else f11_netLine_J312 K2 n m (mw h2 m) h62) := by
            unfold f11_netLine f11_netLine_J236 f11_netLine_J250 f11_netLine_J265
            rw [if_neg (fun hh => no 0 (by omega) (by omega) (c0.mp hh)), if_neg (fun hh => no 1 (by omega) (by omega) (c1.mp hh)), if_neg (fun hh => no 2 (by omega) (by omega) (c2.mp hh)), if_neg (fun hh => no 3 (by omega) (by omega) (c3.mp hh)), if_pos hw, if_pos hw, if_pos hw, full, x_bp, j4, x_bp]
          rw [show f5_shapeOf (nI 4) = 17 by decide, mJ]
          refine (net_4 (K1 := K1) (K2 := K2) ku ne nu hu hn j5 H S (fun h0 N V P => ?_) hw r2).pre (by omega) ⟨j8, fun a k ha => j9 a k (by omega)⟩ ((c21.up (by decide)).tr (j10.up (by decide)))
          have nA := (j7 h0).2
          have e3 : h1.1 (r + 1) 3 = nI (N 3) := by rw [← j9 (r + 1) 3 (by omega)]; exact V.1 3 (by omega)
          have n3 := P.2.2.2.1
          rw [e3] at nA
          have q1 : ((12 : Int32) ≤ nI (N 3)) = (12 ≤ N 3) := x_le (aa := 12) (by omega) (by omega)
          rw [q1] at nA; omega
        · subst hv
          have hw : ¬ lg_cmp (mw h2 m) (491496240229 : Int64) = 0 := fun hh => no 4 (by omega) (by omega) (c4.mp hh)
          rw [c_head (A := ¬ (h1.1 (r + 1) 4 < (6 : Int32))) (by omega) oC L.1.2.1]
          have hAB : f = 0 → ((¬ (h1.1 (r + 1) 4 < (6 : Int32))) ↔ ((sI h2 m 21 1).1 (m + 9) (4 : Int32).toNatClampNeg = (6 : Int32))) := fun f0 => by
            obtain ⟨N, N1, N2, N3⟩ := DN f0
            have z0 : (sI h2 m 21 1).1 (m + 9) (4 : Int32).toNatClampNeg = nI (N 4) := (row 4).trans (N2 4 (by omega))
            have n3 := N3.2.2.2.2.1
            rw [N1.1 4 (by omega), z0]
            have q1 : (nI (N 4) < (6 : Int32)) = (N 4 < 6) := x_lt' (ab := 6) (by omega) (by omega)
            have q2 : (nI (N 4) = (6 : Int32)) = (N 4 = 6) := x_eq (ab := 6) (by omega) (by omega)
            rw [q1, q2]; omega
          obtain ⟨a1, b1, kd1, f1, p1, P, Q, g1, g2, j1, j2, j3, j4, j5, j6, j7, j8, j9, j10⟩ := both_head (K1 := K1) (K2 := K2) ku ne nu hn Lg (by omega) hAB
          rw [j1, x_bp, f5_readLine_J44, j2, x_bp]
          obtain ⟨S, H⟩ := mkS (fun h0 => (j7 h0).1) j9 j10
          have full : f11_full K2 n m (4 : Int32) (6 : Int32) (nI b) (sI h2 m 21 1) = some Q := by
            unfold f11_full
            rw [show inb (4 : Int32) 122 = true by decide, x_gd, ← j3]
            by_cases hc : (sI h2 m 21 1).1 (m + 9) (4 : Int32).toNatClampNeg = (6 : Int32)
            · rw [if_pos hc, if_pos hc]
              cases f11_addsFault K2 n m (3 : Int32) (nI b) (sI h2 m 21 1) <;> rfl
            · rw [if_neg hc, if_neg hc]
          have mJ : f11_netLine K2 n m (mw h2 m) (nI b) (sI h2 m 21 1) = (bd (f11_takeNode K2 n m (0 : Int32) (-1 : Int32) g2) fun y59 h58 => if y59 = 0 then some ((0 : Int32), h58) else bd (f11_takeName K2 n m (1 : Int32) h58) fun y63 h62 => if y63 = 0 then some ((0 : Int32), h62) else if (lg_cmp (mw h2 m) (491496240229 : Int64)) = 0 then (bd (f11_takeNode K2 n m (2 : Int32) (h62.1 (m + 10) (0 : Int32).toNatClampNeg) h62) fun y68 h67 => if y68 = 0 then some ((0 : Int32), h67) else f11_netLine_J312 K2 n m (mw h2 m) h67) else f11_netLine_J312 K2 n m (mw h2 m) h62) := by
            unfold f11_netLine f11_netLine_J236 f11_netLine_J250 f11_netLine_J265
            rw [if_neg (fun hh => no 0 (by omega) (by omega) (c0.mp hh)), if_neg (fun hh => no 1 (by omega) (by omega) (c1.mp hh)), if_neg (fun hh => no 2 (by omega) (by omega) (c2.mp hh)), if_neg (fun hh => no 3 (by omega) (by omega) (c3.mp hh)), if_neg hw, if_pos (c5.mpr ⟨rfl, x3⟩), if_neg hw, if_neg hw, full, x_bp, j4, x_bp]
          rw [show f5_shapeOf (nI 5) = 18 by decide, mJ]
          refine (net_5 (K1 := K1) (K2 := K2) ku ne nu hu hn j5 H S (fun h0 N V P => ?_) hw r2).pre (by omega) ⟨j8, fun a k ha => j9 a k (by omega)⟩ ((c21.up (by decide)).tr (j10.up (by decide)))
          have nA := (j7 h0).2
          have e3 : h1.1 (r + 1) 4 = nI (N 4) := by rw [← j9 (r + 1) 4 (by omega)]; exact V.1 4 (by omega)
          have n3 := P.2.2.2.2.1
          rw [e3] at nA
          have q1 : (nI (N 4) < (6 : Int32)) = (N 4 < 6) := x_lt' (ab := 6) (by omega) (by omega)
          rw [q1] at nA; omega
  · exact refuse (fun v _ hh => h1d hh.1) (Or.inl h1d)
end NetN
