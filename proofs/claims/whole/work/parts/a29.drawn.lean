/-! drawn: both sides alike -/
theorem ush16 (s : Int32) : ∃ u, u < 65536 ∧ (s.toUInt32 >>> ((16 : Int32).toUInt32 &&& Int32.toUInt32 31)).toInt32 = nI u := by
  have h1 := pk_ushr s 16 16 (by decide)
  have h2 : s.toBitVec.toNat < 4294967296 := s.toBitVec.isLt
  refine ⟨s.toBitVec.toNat / 65536, by omega, ?_⟩
  apply Int32.toBitVec_inj.mp
  apply BitVec.eq_of_toNat_eq
  rw [h1, pk_tn (by omega)]
section Drawn
variable {K1 K2 : Ly} {n c x m o j kb : Nat} {h1 h2 : Hp} {N : Nat → Nat} {aw : Int32} {st : St} {g : Gh} {a1 a2 a3 a4 : Int32}
theorem vC.kp13 {h' : Hp} (v : vC K1 c h1 o N aw st) (q : Ch [13] c h1 h') : vC K1 c h' o N aw st := by
  obtain ⟨v1, v2, v3, v4, v5, v6, v7, v8, v9, v10⟩ := v
  exact ⟨v1.kp q (by simp) (by simp), now_kp v2 q (by simp), dn_kp v3 q (by simp), v4.kp q (by simp), v5.kp q (by simp), v6.kp q (by simp), v7.kp q (by simp), v8.kp q (by simp), v9.kp q (by simp), v10.kp q (by simp)⟩
theorem both_draw {b : Nat} (hb : 0 < b) (hb' : b < 65536) (V : WW K1 c h1 o m h2 j N aw kb st) (hs : h1.1 c 4 = h2.1 m 85) : ∃ y h1' h2', y < b ∧ f10_below K1 n c (nI b) h1 = some (nI y, h1') ∧ f11_draw K2 n m (nI b) h2 = some (nI y, h2') ∧ WW K1 c h1' o m h2' j N aw kb st ∧ h1'.1 c 4 = h2'.1 m 85 ∧ h1'.1 c 3 = h1.1 c 3 ∧ Ch [13] c h1 h1' ∧ ChM [185] m h2 h2' := by
  obtain ⟨u, hu, eu⟩ := ush16 (h1.1 c 4 * (1103515245 : Int32) + (12345 : Int32))
  have ch1 : Ch [13] c h1 (sI h1 c 4 (h1.1 c 4 * (1103515245 : Int32) + (12345 : Int32))) := Ch.I 13 rg_c4 (by simp) Ch.rf
  have ch2 : ChM [185] m h2 (sI h2 m 85 (h1.1 c 4 * (1103515245 : Int32) + (12345 : Int32))) := ChM.F (by simp) ChM.rf
  have n0 : ¬ nI b = (0 : Int32) := nI_ne0 hb (by omega)
  have r := pk_rem (a := u) (d := b) (by omega) hb (by omega)
  refine ⟨u % b, _, _, Nat.mod_lt _ hb, ?_, ?_, ⟨⟨V.1.1.kp13 ch1, V.1.2.1.kp ch2 (by decide), V.1.2.2⟩, V.2⟩, by rw [rI_e, rI_e], rI_n (by omega), ch1, ch2⟩
  · unfold f10_below
    rw [x_lt, rI_e, if_neg (nI_nle hb (by omega)), show decide (¬ nI b = (0 : Int32)) = true by simp [n0], x_gd, eu, r]
  · unfold f11_draw
    rw [x_lt, rI_e, show decide (¬ nI b = (0 : Int32)) = true by simp [n0], x_gd, ← hs, eu, r]
def RD : List Nat := 13 :: RC
def RDm : List Nat := 185 :: RY
theorem ltr_4 {w : Nat} (hw : w < 531441) : (4 ≤ ltr w) = (19683 ≤ w) := by
  unfold ltr
  refine propext ?_
  (repeat' split) <;> omega
theorem both_drawAsk {k y : Nat} (ok : nOk N) (kc : KC K1 c) (hn : 5000 ≤ n) (hk : k < 60) (hy : y ≤ 4) (V : WW K1 c h1 o m h2 j N aw k st) (hs : h1.1 c 4 = h2.1 m 85) : ∃ h1' h2' st', f10_drawAsk K1 n c (nI k) (if nI y = (4 : Int32) then (1 : Int32) else (0 : Int32)) h1 = some h1' ∧ (bp (f11_serves K2 n m h2) fun y26 => if y26 ≤ 0 then some h2 else (bd (f11_draw K2 n m (h2.1 m 23) h2) fun y30 h29 => bp (f11_serves K2 n m h29) fun y32 => bd (f11_draw K2 n m y32 h29) fun y35 h34 => bp (f11_serveAt K2 n m y35 (1 : Int32) h34) fun y37 => bd (f11_draw K2 n m (3 : Int32) h34) fun y40 h39 => if y40 ≤ 0 then f11_drawDeed_J75 K2 n m (nI k) (nI y) y30 y37 h39 else bp (f11_lettersOf K2 n y37 h39) fun y43 => f11_drawDeed_J77 K2 n m (nI k) (nI y) y30 (if (4 : Int32) ≤ y43 then y37 else (((27 : Int32) * y37) + y40)) h39)) = some h2' ∧ WW K1 c h1' o m h2' j N aw (k + 1) st' ∧ h1'.1 c 4 = h2'.1 m 85 ∧ Ch RD c h1 h1' ∧ ChM RDm m h2 h2' := by
  have b0 := ok.1
  have b4 := ok.2.2.2.2.1
  obtain ⟨n1, n2, n3, n4⟩ := V.1.1.1.1
  have vm := V.1.2.1.1.1
  rw [mserves vm, x_bp]
  have q4 : (nI y = (4 : Int32)) = (y = 4) := x_eq (ab := 4) (by omega) (by omega)
  by_cases h4 : N 4 = 0
  · have e1 : nI (N 4) ≤ (0 : Int32) := by rw [h4]; decide
    refine ⟨h1, h2, st, ?_, by rw [if_pos e1], V.up (by omega) (by omega), hs, Ch.rf, ChM.rf⟩
    unfold f10_drawAsk
    rw [n1, x_ob n2, n3.1 4 (by omega), if_pos e1]
  have e1 : ¬ nI (N 4) ≤ (0 : Int32) := nI_nle (by omega) (by omega)
  obtain ⟨d, p1, q1, ld, c1, m1, V1, s1, t1, ch1, cm1⟩ := both_draw (K1 := K1) (K2 := K2) (n := n) (b := N 0) (by omega) (by omega) V hs
  obtain ⟨n1', n2', n3', n4'⟩ := V1.1.1.1.1
  have vm1 := V1.1.2.1.1.1
  obtain ⟨e, p2, q2, le, c2, m2, V2, s2, t2, ch2, cm2⟩ := both_draw (K1 := K1) (K2 := K2) (n := n) (b := N 4) (by omega) (by omega) V1 s1
  have n3'' := V2.1.1.1.1.2.2.1
  have vm2 := V2.1.2.1.1.1
  obtain ⟨z, p3, q3, lz, c3, m3, V3, s3, t3, ch3, cm3⟩ := both_draw (K1 := K1) (K2 := K2) (n := n) (b := 3) (by omega) (by omega) V2 s2
  obtain ⟨k1, ⟨k2, k3⟩, -⟩ := ok.2.2.2.2.2.2.2.2.2 e le
  have w2 := (n3''.2.2.2.2.2 e le).2.1
  have sv1 := (m_sv2 (K2 := K2) (n := n) vm2 (show e < 6 by omega)).2
  have lt27 : N (105 + 3 * e) < 19683 → 27 * N (105 + 3 * e) + z < 531441 := fun hh => by omega
  have g27 : nI (N (105 + 3 * e)) * (27 : Int32) + nI z = nI (27 * N (105 + 3 * e) + z) := by rw [l_27, pk_mul, nI_add, Nat.mul_comm]
  have m27 : (27 : Int32) * nI (N (105 + 3 * e)) + nI z = nI (27 * N (105 + 3 * e) + z) := by rw [l_27, pk_mul, nI_add]
  have q0 : (nI z = (0 : Int32)) = (z = 0) := x_eq (ab := 0) (by omega) (by omega)
  have ql : ((19683 : Int32) ≤ nI (N (105 + 3 * e))) = (19683 ≤ N (105 + 3 * e)) := x_le (aa := 19683) (by omega) (by omega)
  have fin : ∀ nm, nm < 531441 → ∃ h1' h2' st', f10_drawAsk_J91 K1 n (if nI y = (4 : Int32) then (1 : Int32) else (0 : Int32)) c (nI k) (nI d) (nI nm) p3 = some h1' ∧ f11_drawDeed_J77 K2 n m (nI k) (nI y) (nI d) (nI nm) q3 = some h2' ∧ WW K1 c h1' o m h2' j N aw (k + 1) st' ∧ h1'.1 c 4 = h2'.1 m 85 ∧ Ch RD c h1 h1' ∧ ChM RDm m h2 h2' := fun nm hnm => by
    obtain ⟨h1', h2', st', a1, a2, a3, a4, a5, a6, a7, a8⟩ := both_ask (K1 := K1) (K2 := K2) (ws := if nI y = (4 : Int32) then (1 : Int32) else (0 : Int32)) ok kc hn hk ld hnm V3.1
    have dk : dOk (s_d st') := by rw [a5]; exact V3.2
    have e5 : (if (4 : Int32) ≤ nI y then (1 : Int32) else 0) = if nI y = (4 : Int32) then (1 : Int32) else (0 : Int32) := by
      have l4' : ((4 : Int32) ≤ nI y) = (4 ≤ y) := x_le (aa := 4) (by omega) (by omega)
      simp only [l4', q4]
      by_cases hc : y = 4
      · rw [if_pos (by omega), if_pos hc]
      · rw [if_neg (by omega), if_neg hc]
    refine ⟨h1', h2', st', ?_, ?_, ⟨a3, dk⟩, ?_, (ch1.up (by decide)).tr ((ch2.up (by decide)).tr ((ch3.up (by decide)).tr (a7.up (by decide)))), (cm1.up (by decide)).tr ((cm2.up (by decide)).tr ((cm3.up (by decide)).tr (a8.up (by decide))))⟩
    · unfold f10_drawAsk_J91
      rw [a1, x_bp]
    · unfold f11_drawDeed_J77 f11_drawDeed_J90 f11_does f11_does_J28
      rw [e5, a2, x_bd]
      have i1 : isB (1 : Int32) = true := by decide
      rw [i1, x_gd]
      by_cases hc : nI y = (4 : Int32)
      · rw [if_pos hc, if_neg b_10, if_pos rfl, x_bd]
      · rw [if_neg hc, if_pos rfl, x_bd]
    · rw [(a7 c 4 (by rw [rg_c4]; decide)).1, a8.f (by decide)]; exact s3
  have cs : f10_drawAsk K1 n c (nI k) (if nI y = (4 : Int32) then (1 : Int32) else (0 : Int32)) h1 = f10_drawAsk_J91 K1 n (if nI y = (4 : Int32) then (1 : Int32) else (0 : Int32)) c (nI k) (nI d) (nI (if z = 0 ∨ 19683 ≤ N (105 + 3 * e) then N (105 + 3 * e) else 27 * N (105 + 3 * e) + z)) p3 := by
    unfold f10_drawAsk f10_drawAsk_J68
    rw [n1, x_ob n2, n3.1 4 (by omega), if_neg e1, x_ob n2, n3.1 0 (by omega), c1, x_bd, n1', x_ob n2', x_ob n2', n3'.1 4 (by omega), c2, x_bd, x_in (show e < 6 by omega) (by omega), x_gd, x_lt, x_cl (by omega), w2, l_3, c3, x_bd, g27]
    simp only [q0, ql]
    by_cases z0 : z = 0
    · rw [if_pos z0, if_pos rfl, if_pos (Or.inl z0)]
    · rw [if_neg z0]
      by_cases hw : 19683 ≤ N (105 + 3 * e)
      · rw [if_pos hw, if_pos rfl, if_pos (Or.inr hw)]
      · rw [if_neg hw, if_neg b_10, if_neg (show ¬ (z = 0 ∨ 19683 ≤ N (105 + 3 * e)) from fun hh => hh.elim z0 hw)]
  have ms : (if nI (N 4) ≤ 0 then some h2 else (bd (f11_draw K2 n m (h2.1 m 23) h2) fun y30 h29 => bp (f11_serves K2 n m h29) fun y32 => bd (f11_draw K2 n m y32 h29) fun y35 h34 => bp (f11_serveAt K2 n m y35 (1 : Int32) h34) fun y37 => bd (f11_draw K2 n m (3 : Int32) h34) fun y40 h39 => if y40 ≤ 0 then f11_drawDeed_J75 K2 n m (nI k) (nI y) y30 y37 h39 else bp (f11_lettersOf K2 n y37 h39) fun y43 => f11_drawDeed_J77 K2 n m (nI k) (nI y) y30 (if (4 : Int32) ≤ y43 then y37 else (((27 : Int32) * y37) + y40)) h39)) = f11_drawDeed_J77 K2 n m (nI k) (nI y) (nI d) (nI (if z = 0 ∨ 19683 ≤ N (105 + 3 * e) then N (105 + 3 * e) else 27 * N (105 + 3 * e) + z)) q3 := by
    have l3 : (3 : Int32) = nI 3 := rfl
    have lz0 : (nI z ≤ (0 : Int32)) = (z ≤ 0) := x_le (ab := 0) (by omega) (by omega)
    have ll := ltr_le (N (105 + 3 * e))
    have l44 : ((4 : Int32) ≤ nI (ltr (N (105 + 3 * e)))) = (4 ≤ ltr (N (105 + 3 * e))) := x_le (aa := 4) (by omega) (by omega)
    rw [if_neg e1, vm.2.2.1, m1, x_bd, mserves vm1, x_bp, m2, x_bd, sv1, x_bp, l3, m3, x_bd, mltr k3 (by omega), x_bp, m27, f11_drawDeed_J75]
    simp only [lz0, l44, ltr_4 k3]
    by_cases z0 : z = 0
    · rw [if_pos (by omega), if_pos (Or.inl z0)]
    · rw [if_neg (by omega)]
      by_cases hw : 19683 ≤ N (105 + 3 * e)
      · rw [if_pos hw, if_pos (Or.inr hw)]
      · rw [if_neg hw, if_neg (show ¬ (z = 0 ∨ 19683 ≤ N (105 + 3 * e)) from fun hh => hh.elim z0 hw)]
  rw [cs, ms]
  by_cases hc : z = 0 ∨ 19683 ≤ N (105 + 3 * e)
  · rw [if_pos hc]; exact fin _ k3
  · rw [if_neg hc]; exact fin _ (lt27 (by omega))
theorem lk0_of (ok : nOk N) {l : Nat} (hl : l < N 2) : lk0 N (6 * N (11 + 3 * l) + N (12 + 3 * l)) = some l := by
  have ml : mL N (6 * N (11 + 3 * l) + N (12 + 3 * l)) l = true := by simp [mL]
  unfold lk0
  refine fN_eq (by omega) (by omega) ml (fun i h1 h2 => ?_)
  cases hq : mL N (6 * N (11 + 3 * l) + N (12 + 3 * l)) i with
  | false => rfl
  | true => exact (mL_u ok hl h2 ml hq).elim
/-- a link drawn is cut or mended -/
theorem m_toggle {l : Nat} (ok : nOk N) (hl : l < N 2) (V : WW K1 c h1 o m h2 j N (-1) kb st) : f11_drawDeed_J167 K2 n m (nI (N (11 + 3 * l))) (nI (N (12 + 3 * l))) (if f11_has (h2.1 m 26) (nI l) = 0 then (1 : Int32) else (0 : Int32)) h2 = some (sI h2 m 26 (s_d st ^^^ ((1 : Int32) <<< (nI l &&& 31)))) := by
  have b0 := ok.1
  have b2 := ok.2.2.1
  obtain ⟨k1, k2, k3, -⟩ := ok.2.2.2.2.2.2.1 l hl
  have vm := V.1.2.1
  have nn : h2.1 m 23 = nI (N 0) := vm.1.1.2.2.1
  have e1 : (6 : Int32) * nI (N (11 + 3 * l)) + nI (N (12 + 3 * l)) = nI (6 * N (11 + 3 * l) + N (12 + 3 * l)) := by rw [l_6, pk_mul, nI_add]
  have la : lkA N (-1) (6 * N (11 + 3 * l) + N (12 + 3 * l)) = some l := by
    unfold lkA
    rw [lk0_of ok hl]
    simp [x_nm1 (show l < 2147483648 by omega)]
  have e5 : ¬ nI l = (-1 : Int32) := by rw [x_nm1 (by omega)]; exact fun hh => hh
  unfold f11_drawDeed_J167 f11_changes
  rw [m_isN nn ok (by omega), if_pos k1, x_bp, if_neg b_10, m_isN nn ok (by omega), if_pos k2, x_bp, if_neg b_10, e1, x_in (show 6 * N (11 + 3 * l) + N (12 + 3 * l) < 36 by omega) (by omega), x_gd, x_cl (by omega), vm.1.2 _ (by omega), la]
  show bd (f11_changes_J31 K2 n m (if f11_has (h2.1 m 26) (nI l) = 0 then (1 : Int32) else (0 : Int32)) (nI l) h2) _ = _
  unfold f11_changes_J31 f11_changes_J82
  rw [if_neg e5, vm.2.2.1, mhas (show l < 32 by omega), x_lt]
  by_cases hb : bI (s_d st) l = true
  · rw [if_pos hb, if_neg b_10, if_neg b_10, if_pos rfl, x_bd, x_mend (by omega) hb]
  · rw [if_neg hb, if_pos rfl, if_neg (show ¬ (0 : Int32) = 1 by decide), if_neg b_10, x_bd, x_cut (by omega) (by simpa using hb)]
theorem both_drawDeed {k T fu : Nat} (ok : nOk N) (kc : KC K1 c) (hn : 5000 ≤ n) (hk : k < T) (hT : T ≤ 60) (V : WW K1 c h1 o m h2 j N (-1) k st) (hs : h1.1 c 4 = h2.1 m 85) : ∃ h1' h2' st', f10_draw_L14 K1 n c (nI T) (fu + 1) (nI k) h1 = f10_draw_L14 K1 n c (nI T) fu (nI (k + 1)) h1' ∧ f11_drawDeed K2 n m (nI k) h2 = some h2' ∧ WW K1 c h1' o m h2' j N (-1) (k + 1) st' ∧ h1'.1 c 4 = h2'.1 m 85 ∧ Ch RD c h1 h1' ∧ ChM RDm m h2 h2' := by
  have b0 := ok.1
  have b2 := ok.2.2.1
  have e1 : ¬ nI T ≤ nI k := nI_ge (by omega) (by omega)
  obtain ⟨y, p1, q1, ly, c1, m1, V1, s1, t1, ch1, cm1⟩ := both_draw (K1 := K1) (K2 := K2) (n := n) (b := 10) (by omega) (by omega) V hs
  have c1 : f10_below K1 n c (10 : Int32) h1 = some (nI y, p1) := c1
  have m1 : f11_draw K2 n m (10 : Int32) h2 = some (nI y, q1) := m1
  obtain ⟨n1, n2, n3, n4⟩ := V1.1.1.1.1
  have vm := V1.1.2.1
  have l4 : ((4 : Int32) < nI y) = (4 < y) := x_lt' (aa := 4) (by omega) (by omega)
  have l8 : ((8 : Int32) < nI y) = (8 < y) := x_lt' (aa := 8) (by omega) (by omega)
  have l5 : ((5 : Int32) ≤ nI y) = (5 ≤ y) := x_le (aa := 5) (by omega) (by omega)
  have l9 : ((9 : Int32) ≤ nI y) = (9 ≤ y) := x_le (aa := 9) (by omega) (by omega)
  rw [f10_draw_L14, if_neg e1, c1, x_bd]
  unfold f11_drawDeed
  rw [m1, x_bd]
  simp only [l4, l8, l5, l9]
  by_cases ya : y ≤ 4
  · obtain ⟨h1', h2', st', a1, a2, a3, a4, a5, a6⟩ := both_drawAsk (K1 := K1) (K2 := K2) ok kc hn (show k < 60 by omega) ya V1 s1
    refine ⟨h1', h2', st', ?_, ?_, a3, a4, (ch1.up (by decide)).tr a5, (cm1.up (by decide)).tr a6⟩
    · rw [if_neg (show ¬ 4 < y by omega), f10_draw_J48, a1, x_bp, x_lt, nI_1]
    · rw [if_neg (show ¬ 5 ≤ y by omega)]; exact a2
  rw [if_pos (show 4 < y by omega), if_pos (show 5 ≤ y by omega)]
  by_cases y9 : y = 9
  · rw [if_pos (show 8 < y by omega), if_pos (show 9 ≤ y by omega), n1, x_ob n2, n3.1 2 (by omega), mlinks vm.1.1, x_bp]
    by_cases h0 : N 2 = 0
    · have z : nI (N 2) ≤ (0 : Int32) := by rw [h0]; decide
      exact ⟨p1, q1, st, by rw [if_pos z, x_lt, nI_1], by rw [if_pos z], V1.up (by omega) (by omega), s1, ch1.up (by decide), cm1.up (by decide)⟩
    · have z : ¬ nI (N 2) ≤ (0 : Int32) := nI_nle (by omega) (by omega)
      obtain ⟨l, p2, q2, ll, c2, m2, V2, s2, t2, ch2, cm2⟩ := both_draw (K1 := K1) (K2 := K2) (n := n) (b := N 2) (by omega) (by omega) V1 s1
      have vm2 := V2.1.2.1
      have r0 : f11_linkAt K2 n m (nI l) (0 : Int32) q2 = some (nI (N (11 + 3 * l))) := mlinkAt vm2.1.1 (l := l) (w := 0) (by omega)
      have r1 : f11_linkAt K2 n m (nI l) (1 : Int32) q2 = some (nI (N (12 + 3 * l))) := by
        have := mlinkAt (K := K2) (n := n) vm2.1.1 (l := l) (w := 1) (by omega)
        rw [show 11 + 3 * l + 1 = 12 + 3 * l by omega] at this
        exact this
      have d3 : p1.1 c 3 = s_d st := V1.1.1.2.2.1
      refine ⟨_, _, _, ?_, ?_, (V2.d (dOk_x V2.2 (show l < 15 by omega))).up (by omega) (by omega), ?_, (ch1.up (by decide)).tr ((ch2.up (by decide)).tr (Ch.I 12 rg_c3 (by decide) Ch.rf)), (cm1.up (by decide)).tr ((cm2.up (by decide)).tr (ChM.F (by decide) ChM.rf))⟩
      · rw [if_neg z, x_ob n2, n3.1 2 (by omega), c2, x_bd, x_lt, x_lt, nI_1, d3]
      · rw [if_neg z, x_bp, m2, x_bd, r0, x_bp, r1, x_bp, m_toggle ok ll V2]
      · rw [rI_n (by omega), rI_n (by omega)]; exact s2
  · rw [if_neg (show ¬ 8 < y by omega), if_neg (show ¬ 9 ≤ y by omega)]
    obtain ⟨z, p2, q2, lz, c2, m2, V2, s2, t2, ch2, cm2⟩ := both_draw (K1 := K1) (K2 := K2) (n := n) (b := 5) (by omega) (by omega) V1 s1
    have c2 : f10_below K1 n c (5 : Int32) p1 = some (nI z, p2) := c2
    have m2 : f11_draw K2 n m (5 : Int32) q1 = some (nI z, q2) := m2
    have vm2 := V2.1.2.1
    have nw := V2.1.2.2.2.1
    have e3 : (1 : Int32) + nI z = nI (z + 1) := by rw [l_1, nI_add, Nat.add_comm]
    have now1 : p2.1 c 2 = nI (s_n st) := V2.1.1.2.1
    have now2 : q2.1 m 27 = nI (s_n st) := vm2.2.1
    have cs : f10_drawWait K1 n c p1 = f10_drawWait_L17 K1 n c (nI (z + 1)) (nI (s_n st + (z + 1))) n 0 p2 := by
      unfold f10_drawWait
      rw [c2, x_bd, x_lt, e3, x_lt, now1, nI_add]
    by_cases hl : s_n st + (z + 1) ≤ 99
    · obtain ⟨H1, H2, st', d1, d2, d3, d4, d5, d6, d7, d8, d9⟩ := both_mins (K1 := K1) (K2 := K2) ok kc hn (z + 1) p2 q2 st hl V2
      have cw := (c_waits (K1 := K1) (n := n) (c := c) (t := z + 1) (u := s_n st + (z + 1)) (by omega) hl (fun i hi => (d3 i hi).1) (z + 1) 0 n (by omega) (by omega)).2
      have mw := m_waits (K2 := K2) (n := n) (m := m) (t := z + 1) (by omega) (fun i hi => (d3 i hi).2) (z + 1) 0 n (by omega) (by omega)
      rw [d1] at cw
      rw [d2] at mw
      have cw : f10_drawWait_L17 K1 n c (nI (z + 1)) (nI (s_n st + (z + 1))) n 0 p2 = some (H1 (z + 1)) := cw
      have mw : f11_waits_L15 K2 n m (nI (z + 1)) n 0 q2 = some (1, H2 (z + 1)) := mw
      refine ⟨H1 (z + 1), H2 (z + 1), st', ?_, ?_, d4.up (by omega) (by omega), ?_, (ch1.up (by decide)).tr ((ch2.up (by decide)).tr (d8.up (by decide))), (cm1.up (by decide)).tr ((cm2.up (by decide)).tr (d9.up (by decide)))⟩
      · rw [cs, cw, x_bp, x_lt, nI_1]
      · have e4 : nI (s_n st + (z + 1)) ≤ (99 : Int32) := by rw [l_99]; exact nI_le hl (by omega)
        unfold f11_waits
        rw [m2, x_bd, e3, now2, nI_add, if_pos e4, mw, x_bd]
      · rw [(d8 c 4 (by rw [rg_c4]; decide)).1, d9.f (by decide)]; exact s2
    · refine ⟨p2, q2, st, ?_, ?_, V2.up (by omega) (by omega), s2, (ch1.up (by decide)).tr (ch2.up (by decide)), (cm1.up (by decide)).tr (cm2.up (by decide))⟩
      · have e4 : (99 : Int32) < nI (s_n st + (z + 1)) := by rw [l_99]; exact nI_lt (by omega) (by omega)
        have e5 : ¬ nI (z + 1) ≤ (0 : Int32) := nI_nle (by omega) (by omega)
        have cw : f10_drawWait_L17 K1 n c (nI (z + 1)) (nI (s_n st + (z + 1))) n 0 p2 = some p2 := by
          obtain ⟨n', rfl⟩ : ∃ g, n = g + 1 := ⟨n - 1, by omega⟩
          rw [f10_drawWait_L17, if_neg e5, if_pos e4]
        rw [cs, cw, x_bp, x_lt, nI_1]
      · have e4 : ¬ nI (s_n st + (z + 1)) ≤ (99 : Int32) := by rw [l_99]; exact nI_ge (by omega) (by omega)
        unfold f11_waits
        rw [m2, x_bd, e3, now2, nI_add, if_neg e4, x_bd]
theorem both_drawL {T : Nat} {b4 : Int32} (ok : nOk N) (kc : KC K1 c) (hn : 5000 ≤ n) (hT : T ≤ 60) : ∀ (d k fu fu' : Nat) (h1 h2 : Hp) (st : St), k + d = T → d < fu → d < fu' → WW K1 c h1 o m h2 j N (-1) k st → h1.1 c 4 = h2.1 m 85 → ∃ h1' h2' st', f10_draw_L14 K1 n c (nI T) fu (nI k) h1 = some h1' ∧ f11_drawn_L39 K2 n m (nI T) b4 fu' (nI k) h2 = (bp (f11_ofState K2 n m b4 h2') fun y12 => some (y12, h2')) ∧ WW K1 c h1' o m h2' j N (-1) T st' ∧ Ch RD c h1 h1' ∧ ChM RDm m h2 h2' := by
  intro d
  induction d with
  | zero =>
    intro k fu fu' h1 h2 st hk hf hf' V hs
    obtain ⟨fu, rfl⟩ : ∃ g, fu = g + 1 := ⟨fu - 1, by omega⟩
    obtain ⟨fu', rfl⟩ : ∃ g, fu' = g + 1 := ⟨fu' - 1, by omega⟩
    have e1 : nI T ≤ nI k := nI_le (by omega) (by omega)
    exact ⟨h1, h2, st, by rw [f10_draw_L14, if_pos e1], by rw [f11_drawn_L39, if_pos e1], by rw [show T = k by omega]; exact V, Ch.rf, ChM.rf⟩
  | succ d ih =>
    intro k fu fu' h1 h2 st hk hf hf' V hs
    obtain ⟨fu, rfl⟩ : ∃ g, fu = g + 1 := ⟨fu - 1, by omega⟩
    obtain ⟨fu', rfl⟩ : ∃ g, fu' = g + 1 := ⟨fu' - 1, by omega⟩
    have e1 : ¬ nI T ≤ nI k := nI_ge (by omega) (by omega)
    obtain ⟨p1, p2, st', a1, a2, a3, a4, a5, a6⟩ := both_drawDeed (K1 := K1) (K2 := K2) (fu := fu) ok kc hn (show k < T by omega) hT V hs
    obtain ⟨h1', h2', st'', d1, d2, d3, d4, d5⟩ := ih (k + 1) fu fu' p1 p2 st' (by omega) (by omega) (by omega) a3 a4
    refine ⟨h1', h2', st'', a1.trans d1, ?_, d3, a5.tr d4, a6.tr d5⟩
    rw [f11_drawn_L39, if_neg e1, a2, x_bp, x_lt, nI_1]
    exact d2
theorem both_drawn (kx : KX K1 x) (hn : 5000 ≤ n) (v : XX x h1 m h2) : CC x m (f0_drawn K1 n x a1 a2 a3 a4 h1) (f11_drawn K2 n m a1 a2 a3 a4 h2) := by
  obtain ⟨g, vg⟩ := v.2.2.1
  have tr := v.1 0 (by omega)
  have c0 := vg.1.2.1 0 (by omega)
  have ch0 : ChM RL m h2 (sI h2 m 0 0) := ChM.F (by simp [RL]) ChM.rf
  by_cases hi : isI a1 (g_c g 0)
  · obtain ⟨i, li, rfl⟩ := isI_of (by omega) hi
    have ok := vg.1.2.2.1 i li
    obtain ⟨g2, e1, vmn, ch1, xz⟩ := one_yes (K2 := K2) (n := n) v vg li
    have cf := fun (b : Option (Int32 × Hp)) (F : Nat → Option (Int32 × Hp)) => c_one (n := n) (b := b) (F := F) kx tr vg li
    obtain ⟨-, ko, vn⟩ := cf none (fun _ => none)
    by_cases h3 : isI a3 61
    · obtain ⟨T, lT, rfl⟩ := isI_of (by omega) h3
      obtain ⟨k1, k2, st, s1, s2, s3, s4, s5, s6, s7⟩ := both_begin (K2 := K2) (aw := -1) ok kx.1 hn v.2.1 (show x + 5 + 13 * i + 13 ≤ x + 210 by omega) ko vn vmn
      have cc : Ch [13] (x + 210) k1 (sI k1 (x + 210) 4 a2) := Ch.I 13 rg_c4 (by simp) Ch.rf
      have cm : ChM [185] m k2 (sI k2 m 85 a2) := ChM.F (by simp) ChM.rf
      have V : WW K1 (x + 210) (sI k1 (x + 210) 4 a2) (x + 5 + 13 * i) m (sI k2 m 85 a2) i (g_N g i) (-1) 0 st := ⟨⟨s3.1.1.kp13 cc, s3.1.2.1.kp cm (by decide), s3.1.2.2⟩, s3.2⟩
      obtain ⟨h1', h2', st', d1, d2, d3, d4, d5⟩ := both_drawL (K1 := K1) (K2 := K2) (T := T) (b4 := a4) ok kx.1 hn (by omega) T 0 n n _ _ st (by omega) (by omega) (by omega) V (by rw [rI_e, rI_e])
      obtain ⟨w, w1, w2⟩ := both_look (K1 := K1) (K2 := K2) (n := n) ok kx.1 hn a4 d3
      have i1 : f11_in (nI T) (0 : Int32) (60 : Int32) = 1 := by
        have := m_inQ (k := T) (q := 60) (by omega) (by omega)
        rw [if_pos (by omega)] at this
        exact this
      have e2 : nI T ≤ (60 : Int32) := by rw [l_60]; exact nI_le (by omega) (by omega)
      refine ⟨w, h1', h2', ?_, ?_, ?_⟩
      · unfold f0_drawn
        refine (cf _ _).1.trans ?_
        have d1 : f10_draw_L14 K1 n (x + 210) (nI T) n 0 (sI k1 (x + 210) 4 a2) = some h1' := d1
        unfold f10_draw
        rw [if_neg (nI_pos (by omega)), if_pos e2, s1, x_bp, x_lt, d1, x_bp, w1, x_bp]
      · unfold f11_drawn
        have d2 : f11_drawn_L39 K2 n m (nI T) a4 n 0 (sI k2 m 85 a2) = bp (f11_ofState K2 n m a4 h2') fun y12 => some (y12, h2') := d2
        rw [x_lt, i1, if_neg b_10, e1, x_bd, if_neg b_10, s2, x_bp, x_lt, d2, w2, x_bp]
      · have fr : ∀ a k, a < x + 187 → h1'.1 a k = h1.1 a k ∧ h1'.2.2 a k = h1.2.2 a k := fun a k ha => by
          obtain ⟨u1, u2, u3⟩ := d4.out (by decide) (show a < x + 210 ∨ _ from Or.inl (by omega)) k
          obtain ⟨w1, w2, w3⟩ := s6 a k (Or.inl (by omega))
          exact ⟨by rw [u1, rI_n (by omega), w1], by rw [u3]; exact w3⟩
        exact v.kp (R := 185 :: RQ) fr d3.1.1.x ((ch1.up (by decide)).tr ((s7.up (by decide)).tr ((cm.up (by decide)).tr (d5.up (by decide))))) (by decide)
    · have i1 : f11_in a3 (0 : Int32) (60 : Int32) = 0 := m_inN (q := 60) (by omega) h3
      refine ⟨-2, h1, _, ?_, ?_, v.z ch0⟩
      · unfold f0_drawn
        refine (cf _ _).1.trans ?_
        by_cases hneg : a3 < 0
        · rw [if_pos hneg]
        · obtain ⟨y, hy, rfl⟩ := nI_of hneg
          rw [if_neg hneg, if_neg (show ¬ nI y ≤ (60 : Int32) by rw [l_60, x_le hy (by omega)]; exact fun hh => h3 (isI_nI (by omega) (by omega)))]
      · unfold f11_drawn
        rw [x_lt, i1, if_pos rfl]
  · obtain ⟨k1, e1, xz⟩ := one_no (K2 := K2) (n := n) v vg hi
    have cs : f0_drawn K1 n x a1 a2 a3 a4 h1 = some (-2, h1) := by
      unfold f0_drawn
      exact c_oneNo vg hi
    rw [cs]
    unfold f11_drawn
    rw [x_lt, e1]
    by_cases h3 : f11_in a3 (0 : Int32) (60 : Int32) = 0
    · exact ⟨-2, h1, _, rfl, by rw [if_pos h3], v.z ch0⟩
    · exact ⟨-2, h1, k1, rfl, by rw [if_neg h3, x_bd, if_pos rfl], xz⟩
end Drawn
