/-! class and reference at the same run -/
def VV (K : Ly) (c : Nat) (h1 : Hp) (o m : Nat) (h2 : Hp) (j : Nat) (N : Nat → Nat) (aw : Int32) (kb : Nat) (st : St) : Prop := vC K c h1 o N aw st ∧ vM m h2 j N aw st (s_F st) ∧ Inv N kb (s_n st + 1) 0 st
def RY : List Nat := RX ++ [126, 127]
section VVs
variable {K1 K2 : Ly} {n c o m j : Nat} {h1 h2 : Hp} {N : Nat → Nat} {aw : Int32} {kb : Nat} {st : St}
theorem bG.up {a b : Nat} {r : Nat → Int32} (v : bG a r) (h : a ≤ b) : bG b r := by
  obtain ⟨⟨x, x1, x2⟩, v2⟩ := v
  refine ⟨⟨x, by omega, x2⟩, ?_⟩
  rcases v2 with v2 | ⟨q1, ⟨y, z, y1, y2, y3⟩, q2⟩ | v2 | v2
  · exact Or.inl v2
  · exact Or.inr (Or.inl ⟨q1, ⟨y, z, y1, by omega, y3⟩, q2⟩)
  · exact Or.inr (Or.inr (Or.inl v2))
  · exact Or.inr (Or.inr (Or.inr v2))
theorem inv_clock (I : Inv N kb (s_n st + 1) 0 st) (h : s_n st < 99) : Inv N kb (s_n st + 1) 0 (q_n st (s_n st + 1)) := by
  obtain ⟨i0, i1, i2, i3, i4, i5, i6, i7, i8, i9, i10⟩ := I
  refine ⟨i0, by show s_n st + 1 ≤ 99; omega, fun e he => ?_, i3, i4, i5, i6, fun k hk => ⟨(i7 k hk).1, (i7 k hk).2.up (Nat.le_succ _)⟩, i8, i9, i10⟩
  obtain ⟨v1, v2, v3, v4, v5, v6, v7, x, x1, x2⟩ := i2 e he
  exact ⟨v1, v2, v3, v4, v5, v6, v7, x, by show x ≤ s_n st + 1; omega, x2⟩
theorem ends_n : s_n (ends N st) = s_n st ∧ s_F (ends N st) = s_F st ∧ s_d (ends N st) = s_d st ∧ ∀ k, s_B (ends N st) k 8 = s_B st k 8 := by
  unfold ends
  refine ⟨fe_n.1, fe_n.2, ?_, fun k => fe_8⟩
  show s_d (List.foldl (end1 N) st _) = _
  rw [fe]; rfl
theorem both_min (ok : nOk N) (kc : KC K1 c) (hn : 5000 ≤ n) (hnow : s_n st < 99) (V : VV K1 c h1 o m h2 j N aw kb st) : ∃ (h1' h2' : Hp) (st' : St), f10_passMinute K1 n c h1 = some h1' ∧ f11_goesBy K2 n m h2 = some h2' ∧ VV K1 c h1' o m h2' j N aw kb st' ∧ s_n st' = s_n st + 1 ∧ s_d st' = s_d st ∧ (∀ k, s_B st' k 8 = s_B st k 8) ∧ Ch RC c h1 h1' ∧ ChM RY m h2 h2' := by
  obtain ⟨vc, vm, I⟩ := V
  have Ic := inv_clock I hnow
  -- the minute
  obtain ⟨g1, eg1⟩ : ∃ g1, g1 = sI h1 c 2 (nI (s_n st + 1)) := ⟨_, rfl⟩
  obtain ⟨g2, eg2⟩ : ∃ g2, g2 = sI h2 m 27 (nI (s_n st + 1)) := ⟨_, rfl⟩
  have ch1 : Ch [11] c h1 g1 := by rw [eg1]; exact Ch.I 11 rg_c2 (by simp) Ch.rf
  have ch2 : ChM [127] m h2 g2 := by rw [eg2]; exact ChM.F (by simp) ChM.rf
  have vc1 : vC K1 c g1 o N aw (q_n st (s_n st + 1)) := by
    obtain ⟨v1, v2, v3, v4, v5, v6, v7, v8, v9, v10⟩ := id vc
    exact ⟨v1.kp ch1 (by simp) (by simp), by rw [eg1, rI_e]; rfl, dn_kp v3 ch1 (by simp), v4.kp ch1 (by simp), v5.kp ch1 (by simp), v6.kp ch1 (by simp), v7.kp ch1 (by simp), v8.kp ch1 (by simp), v9.kp ch1 (by simp), v10.kp ch1 (by simp)⟩
  have vm1 : vM m g2 j N aw (q_n st (s_n st + 1)) (s_F st) := by
    obtain ⟨v1, v2, v3, v4, v5, v6, v7, v8, v9, v10⟩ := id vm
    exact ⟨v1.kp ch2 (by decide), by rw [eg2, rI_e]; rfl, mdn_kp v3 ch2 (by decide), v4.kp ch2 (by decide) (by decide), v5.kp ch2 (by decide) (by decide), v6.kp ch2 (by decide), v7.kp ch2 (by decide), v8.kp ch2 (by decide), v9.kp ch2 (by decide), v10.kp ch2 (by decide)⟩
  -- entries end
  obtain ⟨k1, a1, a2, a3⟩ := cends (n := n) ok kc (by omega) (fun e he => (Ic.e e he).1) vc1
  obtain ⟨k2, b1, b2, b3⟩ := mends (K := K2) (n := n) ok (by omega) Ic.e vm1
  have Ie := inv_ends ok Ic
  obtain ⟨en1, en2, en3, en4⟩ := ends_n (N := N) (st := q_n st (s_n st + 1))
  have en1 : s_n (ends N (q_n st (s_n st + 1))) = s_n st + 1 := en1
  have en2 : s_F (ends N (q_n st (s_n st + 1))) = s_F st := en2
  have IF := Ie.F
  rw [en2] at IF
  -- messages come
  obtain ⟨l1, l2, st', W', r1, r2, r3, r4, r5, r6, r7, r8, r9, r10, r11, r12, r13⟩ := both_ld (K2 := K2) (j := j) (aw := aw) (o := o) (m := m) ok kc hn (s_n st + 1) (s_F st).length (by omega) (s_F st).length 0 n n k1 k2 (ends N (q_n st (s_n st + 1))) (s_F st) (by omega) (by omega) (by omega) (Nat.le_refl _) (by rw [en2]; simp) (by rw [en2]; omega) (fun q hq => by
    obtain ⟨-, -, ⟨d, d1, d2, d3⟩, -⟩ := I.2.2.2.1 q hq
    exact ⟨d, d1, d2, d3⟩) (fun q hq => by rw [List.drop_length] at hq; cases hq) en1 a2 b2 (by exact Ie)
  obtain ⟨v1, v2, v3, v4, v5, v6, v7, v8, v9, v10⟩ := id r4
  obtain ⟨l3, c1, c2, c3, c4⟩ := mcomp (K2 := K2) (n := n) (m := m) (now := s_n st + 1) (by omega) W' [] [] n l2 (by simp; omega) (Nat.le_refl _) (by omega) (by simpa using v5.1) (by rw [v2, r6]) (fun i p hp => by cases hp) (fun i p hp => by simpa using v5.2.2 i p hp) r10
  have c5 : ChM [29, 30, 31, 32, 33, 34, 35, 36, 37, 38, 39, 145] m l2 l3 := c4
  refine ⟨l1, l3, st', ?_, ?_, ⟨r3, ?_, ?_⟩, r6, r7.trans en3, fun k => (r13 k).trans (en4 k), ((ch1.up (by decide)).tr (a3.up (by decide))).tr r11, (((ch2.up (by decide)).tr (b3.up (by decide))).tr (r12.up (by decide))).tr (c5.up (by decide))⟩
  · have c8 : k1.1 c 8 = nI (s_F st).length := by
      obtain ⟨pp, Le, p1, p2⟩ := a2.2.2.2.2.1
      rw [p1.2.2.2.1, p2.len, en2]
    unfold f10_passMinute
    rw [vc.2.1, nI_1, x_lt, ← eg1, a1, x_bp, x_lt, c8]
    have r1 : f10_passMinute_L21 K1 n c n (nI 0) (nI (s_F st).length) k1 = some l1 := by simpa using r1
    exact r1
  · unfold f11_goesBy
    have w45 : k2.1 m 45 = nI (s_F st).length := b2.2.2.2.2.1.1
    rw [vm.2.1, nI_1, x_lt, ← eg2, b1, x_bp, x_lt, w45]
    exact r2.trans c1
  · rw [List.nil_append] at c2 c3
    refine ⟨v1.kp c5 (by decide), mnow_kp v2 c5 (by decide), mdn_kp v3 c5 (by decide), v4.kp c5 (by decide) (by decide), ⟨by rw [c2, r8], by omega, fun i p hp => c3 i p (by rw [← r8]; exact hp)⟩, v6.kp c5 (by decide), v7.kp c5 (by decide), v8.kp c5 (by decide), v9.kp c5 (by decide), v10.kp c5 (by decide)⟩
  · obtain ⟨i0, i1, i2, i3, i4, i5, i6, i7, i8, i9, i10⟩ := id r5
    refine ⟨i0, i1, i2, fun q hq => ?_, i4, i5, i6, i7, i8, i9, i10⟩
    obtain ⟨q1, q2, ⟨d, d1, d2, d3⟩, q4⟩ := i3 q hq
    rw [r8] at hq
    have hl := (List.mem_filter.mp hq).2
    simp only [late, d3, Bool.not_eq_true', decide_eq_false_iff_not] at hl
    refine ⟨q1, q2, ⟨d, ?_, d2, d3⟩, q4⟩
    rw [r6]
    have : d ≠ s_n st + 1 := fun hh => hl (by rw [hh])
    omega
theorem inv_asked {k : Nat} {row : Nat → Int32} (I : Inv N k (s_n st + 1) 0 st) (hk : k < 60) (hr : bG (s_n st) row) : Inv N (k + 1) (s_n st + 1) 0 (q_B st (ug (s_B st) k row)) := by
  obtain ⟨i0, i1, i2, i3, i4, i5, i6, i7, i8, i9, i10⟩ := I
  have ne : ∀ k', k' < k → ug (s_B st) k row k' = s_B st k' := fun k' hk' => ug_n (by omega)
  refine ⟨by omega, i1, fun e he => ?_, fun q hq => ?_, i4, fun x k' hx hb => by have := i5 x k' hx hb; omega, i6, fun k' hk' => ?_, i8, i9, i10⟩
  · obtain ⟨v1, v2, v3, v4, ⟨x, x1, x2⟩, v6, v7, v8⟩ := i2 e he
    refine ⟨v1, v2, v3, v4, ⟨x, by omega, x2⟩, fun k' hk' => ?_, fun k' hk' => ?_, v8⟩
    · obtain ⟨q1, q2⟩ := v6 k' hk'
      refine ⟨by omega, ?_⟩
      show ug (s_B st) k row k' 8 = 1 ∧ ug (s_B st) k row k' 9 = _ ∧ ug (s_B st) k row k' 10 = _
      rw [ne k' q1]; exact q2
    · obtain ⟨q1, q2⟩ := v7 k' hk'
      refine ⟨q1, ?_⟩
      show fr0 (ug (s_B st) k row k')
      rw [ne k' (v6 k' q1).1]; exact q2
  · obtain ⟨q1, q2, q3, p1, p2, p3⟩ := i3 q hq
    refine ⟨q1, q2, q3, p1, p2, fun h0 => ?_⟩
    obtain ⟨x, x1, x2, x3, x4, x5⟩ := p3 h0
    refine ⟨x, by omega, x2, ?_⟩
    show ug (s_B st) k row x 8 = 1 ∧ ug (s_B st) k row x 9 = _ ∧ ug (s_B st) k row x 10 = _
    rw [ne x x1]; exact ⟨x3, x4, x5⟩
  · by_cases hkk : k' = k
    · subst hkk
      refine ⟨by omega, ?_⟩
      show bG (s_n st) (ug (s_B st) k' row k')
      rw [ug_e]; exact hr
    · have hk2 : ug (s_B st) k row k' = s_B st k' := ug_n hkk
      have hk' : ug (s_B st) k row k' 8 = 1 := hk'
      rw [hk2] at hk'
      have := i7 k' hk'
      refine ⟨by omega, ?_⟩
      show bG (s_n st) (ug (s_B st) k row k')
      rw [hk2]; exact this.2
theorem both_ask {k nd nm : Nat} {ws : Int32} (ok : nOk N) (kc : KC K1 c) (hn : 5000 ≤ n) (hk : k < 60) (hnd : nd < N 0) (hnm : nm < 531441) (V : VV K1 c h1 o m h2 j N aw k st) : ∃ (h1' h2' : Hp) (st' : St), f10_ask K1 n c (nI k) (nI nd) (nI nm) ws h1 = some h1' ∧ f11_asks K2 n m (nI nd) (nI nm) ws (nI k) h2 = some (1, h2') ∧ VV K1 c h1' o m h2' j N aw (k + 1) st' ∧ s_n st' = s_n st ∧ s_d st' = s_d st ∧ (∀ k', s_B st' k' 8 = if k' = k then 1 else s_B st k' 8) ∧ Ch RC c h1 h1' ∧ ChM RY m h2 h2' := by
  obtain ⟨vc, vm, I⟩ := V
  have b0 := ok.1
  obtain ⟨row, erow⟩ : ∃ row : Nat → Int32, row = fun i => if i = 0 then 0 else if i = 1 then nI (s_n st) else if i = 8 then 1 else if i = 9 then nI nm else if i = 10 then ws else -1 := ⟨_, rfl⟩
  have Ia := inv_asked (row := row) I hk (by
    rw [erow]; exact ⟨⟨s_n st, Nat.le_refl _, rfl⟩, Or.inl ⟨rfl, rfl, rfl, rfl, rfl, rfl, rfl⟩⟩)
  have i2 : inb (nI k) 60 = true := x_in (by omega) (by omega)
  have i3 : (nI k).toNatClampNeg = k := x_cl (by omega)
  have i4 : inb (nI k) 64 = true := x_in (by omega) (by omega)
  -- the class's fate begins
  obtain ⟨g1, eg1⟩ : ∃ g1, g1 = sI (sI (sI (sI (sI (sI (sI (sI h1 (c + 767 + k) 0 0) (c + 767 + k) 1 (nI (s_n st))) (c + 767 + k) 2 (-1)) (c + 767 + k) 3 (-1)) (c + 767 + k) 4 (-1)) (c + 767 + k) 5 (-1)) (c + 767 + k) 6 (-1)) (c + 767 + k) 7 (-1) := ⟨_, rfl⟩
  have cI : ∀ (x : Hp) (i : Nat) (y : Int32), Ch [8] c h1 x → Ch [8] c h1 (sI x (c + 767 + k) i y) := fun x i y q => Ch.I 8 (rg_f (by omega) (by omega)) (by simp) q
  have ch1 : Ch [8] c h1 g1 := by rw [eg1]; exact cI _ _ _ (cI _ _ _ (cI _ _ _ (cI _ _ _ (cI _ _ _ (cI _ _ _ (cI _ _ _ (cI _ _ _ Ch.rf)))))))
  have vc1 : vC K1 c g1 o N aw (q_B st (ug (s_B st) k row)) := by
    obtain ⟨v1, v2, v3, v4, v5, v6, v7, v8, v9, v10⟩ := id vc
    refine ⟨v1.kp ch1 (by simp) (by simp), now_kp v2 ch1 (by simp), dn_kp v3 ch1 (by simp), v4.kp ch1 (by simp), v5.kp ch1 (by simp), v6.kp ch1 (by simp), v7.kp ch1 (by simp), v8.kp ch1 (by simp), fun x hx => ⟨by rw [eg1]; exact (v9 x hx).1, fun i hi => ?_⟩, v10.kp ch1 (by simp)⟩
    show g1.1 (c + 767 + x) i = ug (s_B st) k row x i
    by_cases hxk : x = k
    · subst hxk
      rw [ug_e, erow, eg1]
      match i, hi with
      | 0, _ => simp (disch := omega) only [rI_n, rI_e]; rfl
      | 1, _ => simp (disch := omega) only [rI_n, rI_e]; rfl
      | 2, _ => simp (disch := omega) only [rI_n, rI_e]; rfl
      | 3, _ => simp (disch := omega) only [rI_n, rI_e]; rfl
      | 4, _ => simp (disch := omega) only [rI_n, rI_e]; rfl
      | 5, _ => simp (disch := omega) only [rI_n, rI_e]; rfl
      | 6, _ => simp (disch := omega) only [rI_n, rI_e]; rfl
      | 7, _ => simp (disch := omega) only [rI_n, rI_e]; rfl
      | i + 8, h => omega
    · rw [ug_n hxk, eg1]
      simp (disch := omega) only [rI_n]; exact (v9 x hx).2 i hi
  -- the reference's too
  obtain ⟨g2, eg2⟩ : ∃ g2, g2 = sI (sI h2 (m + 40) k 0) (m + 42) k (nI (s_n st)) := ⟨_, rfl⟩
  have ch2 : ChM [40, 42] m h2 g2 := by rw [eg2]; exact ChM.A (by omega) (by simp) (ChM.A (by omega) (by simp) ChM.rf)
  have vm1 : vM m g2 j N aw (q_B st (ug (s_B st) k row)) (s_F st) := by
    obtain ⟨v1, v2, v3, v4, v5, v6, v7, v8, v9, v10⟩ := id vm
    refine ⟨v1.kp ch2 (by decide), mnow_kp v2 ch2 (by decide), mdn_kp v3 ch2 (by decide), v4.kp ch2 (by decide) (by decide), v5.kp ch2 (by decide) (by decide), v6.kp ch2 (by decide), v7.kp ch2 (by decide), v8.kp ch2 (by decide), fun x hx => ?_, v10.kp ch2 (by decide)⟩
    show mB1 m g2 x (ug (s_B st) k row x)
    by_cases hxk : x = k
    · subst hxk
      rw [ug_e]
      have r0 : row 0 = 0 := by rw [erow]; rfl
      have r8 : row 8 = 1 := by rw [erow]; rfl
      have r1 : row 1 = nI (s_n st) := by rw [erow]; rfl
      refine ⟨fun _ => ⟨?_, ?_, fun hh => ?_, fun hh => ?_, fun hh => ?_⟩, fun hh => absurd r8 hh⟩
      · rw [r0, eg2]; simp (disch := omega) only [rI_n, rI_e]
      · rw [r1, eg2]; simp (disch := omega) only [rI_e]
      · rw [r0] at hh; exact absurd hh (by decide)
      · rw [r0] at hh; exact absurd hh (by decide)
      · rw [r0] at hh; exact absurd hh (by decide)
    · rw [ug_n hxk]
      refine (v9 x hx).kp (fun r hr => ?_)
      rw [eg2]; simp (disch := omega) only [rI_n]
  -- nobody knows this nonce
  obtain ⟨G, gg⟩ := I.2.2.2.2.2.2.2.2.2.2
  have nk : ∀ e ∈ s_L st, ¬ bL (e.2 5) k = true := fun e he hb => by
    have := ((I.2.2.1 e he).2.2.2.2.2.1 k hb).1
    omega
  have nG : ¬ G nd k = true := fun hG => by
    rcases gg.2.2.1 nd k (by omega) hG with hh | ⟨e, e1, e2, e3⟩
    · have := I.2.2.2.2.2.1 nd k (by omega) hh; omega
    · exact nk e e1 e3
  have fl : (s_F st).length < 360 := by
    have := cG_lt (show nd < 6 by omega) hk nG
    have := gg.2.2.2.1
    omega
  have hB : s_B (q_B st (ug (s_B st) k row)) k 8 = 1 ∧ s_B (q_B st (ug (s_B st) k row)) k 9 = nI nm ∧ s_B (q_B st (ug (s_B st) k row)) k 10 = ws := by
    show ug (s_B st) k row k 8 = 1 ∧ ug (s_B st) k row k 9 = nI nm ∧ ug (s_B st) k row k 10 = ws
    rw [ug_e, erow]; exact ⟨rfl, rfl, rfl⟩
  have f0 : fr0 (s_B (q_B st (ug (s_B st) k row)) k) := by
    show fr0 (ug (s_B st) k row k)
    rw [ug_e, erow]; exact ⟨rfl, rfl, rfl, rfl, rfl, rfl, rfl⟩
  obtain ⟨h1', a1, a2, a3⟩ := cinte (n := n) (nd := nd) (k := k) (nm := nm) (fr := none) (ws := ws) (st := q_B st (ug (s_B st) k row)) ok kc (by omega) hnm hk (fun f hh => by cases hh) fl (fun q1 q2 => (room ok Ia (show nd < 6 by omega) hk hB.2.1 hB.2.2 q1 q2).1) (by omega) vc1
  obtain ⟨h2', X, b1, b2, b3, b4⟩ := mint (K := K2) (n := n) (nd := nd) (k := k) (nm := nm) (fr := none) (ws := ws) (st := q_B st (ug (s_B st) k row)) ok I.2.2.2.2.1 (by omega) hnm hk (fun f hh => by cases hh) fl (I.2.2.2.2.2.2.1 nd (by omega)) (fun q1 q2 => by
    have := (room ok Ia (show nd < 6 by omega) hk hB.2.1 hB.2.2 q1 q2).2.1
    omega) (fun _ => hB.1) (by omega) vm1
  have ii := inv_inte (aw := aw) (nd := nd) (k := k) (nm := nm) (fr := none) (ws := ws) ok Ia hnd hnm (Nat.le_refl _) (by omega) hB (fun f hh => by cases hh) (fun _ => ⟨f0, nk⟩)
  obtain ⟨-, n1, n2⟩ := gr_inte (aw := aw) (nd := nd) (k := k) (nm := nm) (fr := none) (ws := ws) (st := q_B st (ug (s_B st) k row)) ok I.2.1
  have n1 : s_n (inte N aw (q_B st (ug (s_B st) k row)) nd none nm ws k) = s_n st := n1
  refine ⟨h1', h2', inte N aw (q_B st (ug (s_B st) k row)) nd none nm ws k, ?_, ?_, ⟨a2, ?_, ?_⟩, n1, n2, fun k' => ?_, (ch1.up (by decide)).tr (a3.up (by decide)), (ch2.up (by decide)).tr (b4.up (by decide))⟩
  · obtain ⟨r1, r2⟩ := vc.2.2.2.2.2.2.2.2.1 k hk
    unfold f10_ask
    rw [i2, x_gd, i3, r1, x_ob (kc.2.2.2 k hk), vc.2.1]
    have fb : f9_begin K1 n (c + 767 + k) (nI (s_n st)) h1 = some g1 := by rw [eg1]; rfl
    rw [fb, x_bp, ← a1]
    congr 1
    funext y g
    split
    · show (bp (f10_makeEntry K1 n c (nI nd) (-1) (nI nm) ws (nI k) g) fun h10 => some h10) = f10_makeEntry K1 n c (nI nd) (-1) (nI nm) ws (nI k) g
      cases f10_makeEntry K1 n c (nI nd) (-1) (nI nm) ws (nI k) g <;> rfl
    · rfl
  · have isn : f11_isNode K2 n m (nI nd) h2 = some 1 := by
      have nn : h2.1 m 23 = nI (N 0) := vm.1.1.2.2.1
      unfold f11_isNode
      have e1 : f11_in (nI nd) 0 (nI (N 0) - 1) = 1 := by
        rw [x_sub1 (by omega)]
        unfold f11_in
        rw [if_neg (nI_pos (by omega)), if_neg (nI_nlt (by omega) (by omega))]
      rw [nn, e1]; rfl
    have e100 : (100 : Int32) + nI k = toA none k := by show _ = nI (100 + k); rw [l_100, nI_add]
    unfold f11_asks
    rw [isn, x_bp, if_neg (by decide), i4, x_gd, i3, x_lt, x_gd, x_lt, rI_n (by omega), vm.2.1, ← eg2, e100, b1, x_bp]
  · rw [b3]; exact b2
  · rw [n1]; exact ii
  · rw [b8_inte]
    show ug (s_B st) k row k' 8 = _
    by_cases hkk : k' = k
    · subst hkk; rw [ug_e, if_pos rfl, erow]; rfl
    · rw [ug_n hkk, if_neg hkk]
end VVs
