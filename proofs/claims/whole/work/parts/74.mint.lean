/-! the reference: an interest comes -/
section MInt
variable {K : Ly} {n m j : Nat} {h : Hp} {N : Nat → Nat} {aw : Int32} {W : List Ms}
theorem vM.eL {h' : Hp} {st : St} {L : List En} (v : vM m h j N aw st W) (q : ChM [18, 19, 20, 21, 22, 23, 24, 25, 26, 27, 28] m h h') (hL : mvE m h' L) : vM m h' j N aw (q_L st L) W := by
  obtain ⟨v1, v2, v3, v4, v5, v6, v7, v8, v9, v10⟩ := v
  exact ⟨v1.kp q (by decide), mnow_kp v2 q (by decide), mdn_kp v3 q (by decide), hL, v5.kp q (by decide) (by decide), v6.kp q (by decide), v7.kp q (by decide), v8.kp q (by decide), v9.kp q (by decide), v10.kp q (by decide)⟩
theorem mjoins {q k : Nat} {e : En} {fr : Option Nat} (hq : q < 384) (hk : k < 60) (hf : ∀ f, fr = some f → f < 6) (ha : agR h m q e) : ∃ h', f11_joins K n m (nI q) (toA fr k) (nI k) h = some h' ∧ agR h' m q (eJoin e fr k) ∧ smq m h h' q ∧ ChM [21, 22, 23] m h h' := by
  obtain ⟨t1, t2, t3, t4, t5, t6, t7, t8, t9, t10⟩ := ha
  have e5 : inb (nI q) 384 = true := x_in (by omega) (by omega)
  have e6 : (nI q).toNatClampNeg = q := x_cl (by omega)
  cases fr with
  | none =>
    obtain ⟨a1, a2⟩ := toA_n hk
    obtain ⟨h', eh⟩ : ∃ h', h' = sL (sL h (m + 22) q (e.2 4 ||| pL k)) (m + 23) q (e.2 5 ||| pL k) := ⟨_, rfl⟩
    refine ⟨h', ?_, ?_, ?_, ?_⟩
    · simp only [f11_joins, toA, if_neg a1, a2, e5, e6, x_gd, t4, x_lt, f11_joins_J36]
      rw [rL_n (by omega), t5, x_pL, ← eh]
    · unfold agR
      rw [eh]
      simp (disch := omega) only [rL_i, rL_n, rL_e]
      exact ⟨t1, t2, t3, rfl, rfl, t6, t7, t8, t9, t10⟩
    · rw [eh]; exact smq.L (by omega) (smq.L (by omega) smq.rf)
    · rw [eh]; exact ChM.L (by omega) (by simp) (ChM.L (by omega) (by simp) ChM.rf)
  | some f =>
    have f6 := hf f rfl
    have a1 : nI f < (100 : Int32) := by rw [l_100]; exact nI_lt (by omega) (by omega)
    obtain ⟨h', eh⟩ : ∃ h', h' = sL (sI h (m + 21) q (e.1 3 ||| pI f)) (m + 23) q (e.2 5 ||| pL k) := ⟨_, rfl⟩
    refine ⟨h', ?_, ?_, ?_, ?_⟩
    · simp only [f11_joins, toA, if_pos a1, e5, e6, x_gd, t3, x_lt, f11_joins_J36, rI_l, t5, x_pI, x_pL, ← eh]
    · unfold agR
      rw [eh]
      simp (disch := omega) only [rL_i, rL_n, rL_e, rI_n, rI_e, rI_l]
      exact ⟨t1, t2, rfl, t4, rfl, t6, t7, t8, t9, t10⟩
    · rw [eh]; exact smq.L (by omega) (smq.I (by omega) smq.rf)
    · rw [eh]; exact ChM.L (by omega) (by simp) (ChM.A (by omega) (by simp) ChM.rf)
theorem agR_out {q t now : Nat} {e : En} (ha : agR h m q e) : agR (sI (sI (sI h (m + 25) q (nI t)) (m + 26) q (e.1 8 ||| pI t)) (m + 27) q (nI now)) m q (eOut e t now) := by
  obtain ⟨t1, t2, t3, t4, t5, t6, t7, t8, t9, t10⟩ := ha
  have o1 : (eOut e t now).1 1 = e.1 1 := rfl
  have o2 : (eOut e t now).1 2 = e.1 2 := rfl
  have o3 : (eOut e t now).1 3 = e.1 3 := rfl
  have o6 : (eOut e t now).1 6 = e.1 6 := rfl
  have o7 : (eOut e t now).1 7 = nI t := rfl
  have o8 : (eOut e t now).1 8 = e.1 8 ||| pI t := rfl
  have o9 : (eOut e t now).1 9 = nI now := rfl
  have o10 : (eOut e t now).1 10 = e.1 10 := rfl
  have o4 : (eOut e t now).2 = e.2 := rfl
  unfold agR
  rw [o1, o2, o3, o4, o6, o7, o8, o9, o10]
  simp (disch := omega) only [rI_n, rI_e, rI_l]
  exact ⟨t1, t2, t3, t4, t5, t6, trivial, trivial, trivial, t10⟩
theorem mgoesOn {q nd nm : Nat} {e : En} {st : St} (ok : nOk N) (hM : mOk (s_M st)) (hq : q < 384) (v : vM m h j N aw st W) (ha : agR h m q e) (e1 : e.1 1 = nI nm) (hnd : nd < 6) (hnm : nm < 531441) (hF : (s_F st).length < 360) (hn : 20 ≤ n) {L6 : Nat → List En} (hL : ∀ t h', smq m h h' q → agR h' m q (eOut e t (s_n st)) → mvE m h' (L6 t)) :
    match bw N aw (s_d st) (s_M st) nd nm (e.1 3 ||| e.1 8) with
    | none => f11_goesOn K n m (nI nd) (nI q) h = some (0, h)
    | some t => ∃ h' X, f11_goesOn K n m (nI nd) (nI q) h = some (1, h') ∧ vM m h' j N aw (send N aw (q_L st (L6 t)) nd t (plI (e.1 1) (e.1 2) (e.1 6))) (W ++ X) ∧ s_F (send N aw (q_L st (L6 t)) nd t (plI (e.1 1) (e.1 2) (e.1 6))) = s_F st ++ X ∧ ChM RX m h h' := by
  obtain ⟨v1, v2, v3, v4, v5, v6, v7, v8, v9, v10⟩ := id v
  obtain ⟨t1, t2, t3, t4, t5, t6, t7, t8, t9, t10⟩ := id ha
  have e5 : inb (nI q) 384 = true := x_in (by omega) (by omega)
  have e6 : (nI q).toNatClampNeg = q := x_cl (by omega)
  have bb := mbest (K := K) (n := n) ok v1 v3 v6 hM (bar := e.1 3 ||| e.1 8) hnd hnm hn
  cases hb : bw N aw (s_d st) (s_M st) nd nm (e.1 3 ||| e.1 8) with
  | none =>
    rw [hb] at bb
    have bb : f11_nextWay K n m (nI nd) (nI nm) (e.1 3 ||| e.1 8) h = some (-1) := bb
    show f11_goesOn K n m (nI nd) (nI q) h = some (0, h)
    unfold f11_goesOn
    rw [e5, x_gd, x_gd, x_gd, e6, t1, e1, t3, t8, bb, x_bp, if_pos rfl]
  | some t =>
    rw [hb] at bb
    have ht := bw_lt ok hb
    have b0 := ok.1
    obtain ⟨h6, eh⟩ : ∃ h6, h6 = sI (sI (sI h (m + 25) q (nI t)) (m + 26) q (e.1 8 ||| pI t)) (m + 27) q (nI (s_n st)) := ⟨_, rfl⟩
    have q6 : smq m h h6 q := by rw [eh]; exact smq.I (by omega) (smq.I (by omega) (smq.I (by omega) smq.rf))
    have ch6 : ChM [18, 19, 20, 21, 22, 23, 24, 25, 26, 27, 28] m h h6 := by rw [eh]; exact ChM.A (by omega) (by simp) (ChM.A (by omega) (by simp) (ChM.A (by omega) (by simp) ChM.rf))
    have ag6 : agR h6 m q (eOut e t (s_n st)) := by rw [eh]; exact agR_out ha
    have vv6 : vM m h6 j N aw (q_L st (L6 t)) W := v.eL ch6 (hL t h6 q6 ag6)
    have w6 : mvQ m h6 (plI (e.1 1) (e.1 2) (e.1 6)) := ⟨fun hh => absurd hh (by decide : ¬ (0 : Int32) = 1), fun hh => absurd hh (by decide : ¬ (0 : Int32) = 2)⟩
    obtain ⟨h', X, s1, s2, s3, s4⟩ := msends (K := K) (n := n) (a := nd) (b := t) (kd := 0) (nm := e.1 1) (ws := e.1 2) (nc := e.1 6) (p := plI (e.1 1) (e.1 2) (e.1 6)) (st := q_L st (L6 t)) ok hnd (by omega) hF rfl rfl (fun _ => ⟨rfl, rfl⟩) (fun hh => absurd hh (by decide : ¬ (0 : Int32) = 2)) vv6 w6
    refine ⟨h', X, ?_, s2, s3, (ch6.up (by decide)).tr (s4.up (by decide))⟩
    have ne : ¬ nI t = (-1 : Int32) := by rw [x_nm1 (by omega)]; exact not_false
    rw [e1] at s1
    simp only [f11_goesOn, e5, e6, x_gd, t1, e1, t3, t8, bb, x_bp, oI, if_neg ne, x_lt, x_pI]
    simp (disch := omega) only [rI_n, t8, v2, t1, e1, t2, t6]
    rw [← eh, s1, x_bp]
theorem mmakes {nd k nm : Nat} {fr : Option Nat} {ws : Int32} {st : St} (ok : nOk N) (hM : mOk (s_M st)) (hnd : nd < 6) (hnm : nm < 531441) (hk : k < 60) (hf : ∀ f, fr = some f → f < 6) (hF : (s_F st).length < 360) (hL : ((s_L st).filter (atN nd)).length ≤ 62) (hB : fr = none → s_B st k 8 = 1) (hn : 100 ≤ n) (v : vM m h j N aw st W) : ∃ h' X, f11_makesEntry K n m (nI nd) (toA fr k) (nI nm) ws (nI k) h = some h' ∧ vM m h' j N aw (makeE N aw st nd fr nm ws k) (W ++ X) ∧ s_F (makeE N aw st nd fr nm ws k) = s_F st ++ X ∧ ChM RX m h h' := by
  obtain ⟨v1, v2, v3, v4, v5, v6, v7, v8, v9, v10⟩ := id v
  have c0 := (v4 nd hnd).1
  have i6 : inb (nI nd) 6 = true := x_in (by omega) (by omega)
  have i7 : (nI nd).toNatClampNeg = nd := x_cl (by omega)
  obtain ⟨q, hq⟩ : ∃ q, q = 64 * nd + ((s_L st).filter (atN nd)).length := ⟨_, rfl⟩
  have e4 : (64 : Int32) * nI nd + nI ((s_L st).filter (atN nd)).length = nI q := by rw [l_64, pk_mul, nI_add, hq]
  have e5 : inb (nI q) 384 = true := x_in (by omega) (by omega)
  have e6 : (nI q).toNatClampNeg = q := x_cl (by omega)
  have lf : h.1 m 24 = nI (N 1) := v1.1.2.2.2.1
  obtain ⟨h25, eh⟩ : ∃ h25, h25 = sI (sI (sI (sI (sI (sL (sL (sI (sI (sI (sI h (m + 18) nd (nI (((s_L st).filter (atN nd)).length + 1))) (m + 19) q (nI nm)) (m + 20) q ws) (m + 21) q 0) (m + 22) q 0) (m + 23) q 0) (m + 24) q (nI k)) (m + 25) q (-1)) (m + 26) q 0) (m + 27) q 0) (m + 28) q (nI (s_n st + N 1)) := ⟨_, rfl⟩
  let e0 : En := mkE (nI nd) (nI nm) ws 0 (nI k) (-1) 0 0 (nI (s_n st + N 1)) 0 0
  have ag25 : agR h25 m q e0 := by
    unfold agR
    rw [eh]
    simp (disch := omega) only [rI_n, rI_e, rL_i, rI_l, rL_n, rL_e]
    exact ⟨rfl, rfl, rfl, rfl, rfl, rfl, rfl, rfl, rfl, rfl⟩
  have ch25 : ChM [18, 19, 20, 21, 22, 23, 24, 25, 26, 27, 28] m h h25 := by
    rw [eh]
    exact ChM.A (by omega) (by simp) (ChM.A (by omega) (by simp) (ChM.A (by omega) (by simp) (ChM.A (by omega) (by simp) (ChM.A (by omega) (by simp) (ChM.L (by omega) (by simp) (ChM.L (by omega) (by simp) (ChM.A (by omega) (by simp) (ChM.A (by omega) (by simp) (ChM.A (by omega) (by simp) (ChM.A (by omega) (by simp) ChM.rf))))))))))
  obtain ⟨h27, j1, j2, j3, j4⟩ := mjoins (K := K) (n := n) (k := k) (fr := fr) (by omega) hk hf ag25
  have j2 : agR h27 m q (newE N st nd fr nm ws k) := j2
  have z0 : (newE N st nd fr nm ws k).1 0 = nI nd := by unfold newE eJoin; cases fr <;> rfl
  have z1 : (newE N st nd fr nm ws k).1 1 = nI nm := by unfold newE eJoin; cases fr <;> rfl
  have z2 : (newE N st nd fr nm ws k).1 2 = ws := by unfold newE eJoin; cases fr <;> rfl
  have z6 : (newE N st nd fr nm ws k).1 6 = nI k := by unfold newE eJoin; cases fr <;> rfl
  have z3 : (newE N st nd fr nm ws k).1 3 ||| (newE N st nd fr nm ws k).1 8 = (newE N st nd fr nm ws k).1 3 := by
    have : (newE N st nd fr nm ws k).1 8 = 0 := by unfold newE eJoin; cases fr <;> rfl
    rw [this]; simp
  have vE : mvE m h27 (s_L st ++ [newE N st nd fr nm ws k]) := by
    refine mvE_push hnd z0 v4 hL (fun a k' a1 a2 a3 a4 => ?_) ?_ (by rw [← hq]; exact j2)
    · have w1 := j3 a k' a1 a2 (by omega)
      rw [w1.1, w1.2, eh]
      refine ⟨?_, ?_⟩
      · simp (disch := omega) only [rI_n, rL_i]
      · simp (disch := omega) only [rI_l, rL_n]
    · rw [(j3 (m + 18) nd (by omega) (by omega) (Or.inl rfl)).1, eh]
      simp (disch := omega) only [rI_n, rI_e, rL_i]
  have vv : vM m h27 j N aw (q_L st (s_L st ++ [newE N st nd fr nm ws k])) W := v.eL (ch25.tr (j4.up (by decide))) vE
  obtain ⟨a1, a2, a3⟩ := mvE_at (Wl := []) hnd z0 vE
  have go := mgoesOn (K := K) (n := n) (q := q) (nd := nd) (nm := nm) (st := q_L st (s_L st ++ [newE N st nd fr nm ws k])) ok hM (by omega) vv j2 z1 hnd hnm hF (by omega) (L6 := fun t => s_L st ++ [eOut (newE N st nd fr nm ws k) t (s_n st)]) (fun t h' sq ag => a3 h' _ (by show (eOut (newE N st nd fr nm ws k) t (s_n st)).1 0 = _; exact z0) (by rw [← hq]; exact sq) (by rw [← hq]; exact ag))
  rw [z3, z1, z2, z6] at go
  have pre : f11_makesEntry K n m (nI nd) (toA fr k) (nI nm) ws (nI k) h = bd (f11_goesOn K n m (nI nd) (nI q) h27) fun y30 h29 =>
    if y30 = 0 then (
    bp (f11_removes K n m (nI nd) (nI q) h29) fun h33 =>
    bp (f11_firstNack K n m (nI nd) (toA fr k) (nI nm) ws (1 : Int32) h33) fun h35 =>
    some h35)
    else (
    some h29) := by
    simp only [f11_makesEntry, i6, i7, x_gd, c0, e4, x_lt, e5, e6, nI_1]
    simp (disch := omega) only [rI_n, rL_i, v2, lf, nI_add]
    rw [← eh, j1, x_bp]
  rw [pre]
  unfold makeE
  cases hb : bw N aw (s_d st) (s_M st) nd nm ((newE N st nd fr nm ws k).1 3) with
  | none =>
    have go := go
    rw [show bw N aw (s_d (q_L st (s_L st ++ [newE N st nd fr nm ws k]))) (s_M (q_L st (s_L st ++ [newE N st nd fr nm ws k]))) nd nm ((newE N st nd fr nm ws k).1 3) = none from hb] at go
    have go : f11_goesOn K n m (nI nd) (nI q) h27 = some (0, h27) := go
    have v27 := vE nd hnd
    rw [flt_mid z0, List.filter_nil] at v27
    obtain ⟨h33, r1, r2, r3⟩ := mremoves (K := K) (n := n) (w := []) hnd hn (by have := v27.2.1; omega) v27.1 (fun i e he => by simpa using v27.2.2 i e he)
    have vv33 : vM m h33 j N aw st W := by
      have := vv.eL (L := s_L st) r3.ch (by
        have := mvE_del (Wl := []) hnd z0 vE r3 (by simpa using r2)
        simpa using this)
      exact this
    obtain ⟨h35, X, f1, f2, f3, f4⟩ := mfirst (K := K) (n := n) (nd := nd) (k := k) (fr := fr) (nm := nI nm) (ws := ws) (root := 1) ok hnd (fun f hh => ⟨hf f hh, hF⟩) (fun hh => ⟨hk, hB hh⟩) vv33
    refine ⟨h35, X, ?_, f2, f3, (((ch25.up (by decide)).tr (j4.up (by decide))).tr (r3.ch.up (by decide))).tr (f4.up (by decide))⟩
    rw [← hq] at r1
    rw [go, x_bd, if_pos rfl, r1, x_bp, f1, x_bp]
  | some t =>
    rw [show bw N aw (s_d (q_L st (s_L st ++ [newE N st nd fr nm ws k]))) (s_M (q_L st (s_L st ++ [newE N st nd fr nm ws k]))) nd nm ((newE N st nd fr nm ws k).1 3) = some t from hb] at go
    obtain ⟨h', X, g1, g2, g3, g4⟩ := go
    refine ⟨h', X, ?_, g2, g3, ((ch25.up (by decide)).tr (j4.up (by decide))).tr g4⟩
    rw [g1, x_bd, if_neg (by decide)]
theorem vM.sS {h' : Hp} {st : St} {nd : Nat} {l : List So} (v : vM m h j N aw st W) (q : lcS m nd h h') (hs : mS1 m h' nd l) : vM m h' j N aw (q_S st (ug (s_S st) nd l)) W := by
  obtain ⟨v1, v2, v3, v4, v5, v6, v7, v8, v9, v10⟩ := v
  have ch := q.ch
  refine ⟨v1.kp ch (by decide), mnow_kp v2 ch (by decide), mdn_kp v3 ch (by decide), v4.kp ch (by decide) (by decide), v5.kp ch (by decide) (by decide), v6.kp ch (by decide), v7.kp ch (by decide), fun i hi => ?_, v9.kp ch (by decide), v10.kp ch (by decide)⟩
  show mS1 m h' i (ug (s_S st) nd l i)
  by_cases hi2 : i = nd
  · subst hi2; rw [ug_e]; exact hs
  · rw [ug_n hi2]
    obtain ⟨b1, b2, b3⟩ := v8 i hi
    refine ⟨?_, b2, fun x t ht => ?_⟩
    · rw [q.1 _ _ (by omega)]; exact b1
    · have := (List.getElem?_eq_some_iff.mp ht).1
      rw [q.1 _ _ (by omega), q.1 _ _ (by omega), q.1 _ _ (by omega)]; exact b3 x t ht
theorem mint {nd k nm : Nat} {fr : Option Nat} {ws : Int32} {st : St} (ok : nOk N) (hM : mOk (s_M st)) (hnd : nd < 6) (hnm : nm < 531441) (hk : k < 60) (hf : ∀ f, fr = some f → f < 6) (hF : (s_F st).length < 360) (hS : (s_S st nd).length ≤ N (5 + nd)) (hL : fs (isE nd (nI nm) ws) (s_L st) = none → ¬ bL (s_D st nd) k = true → ((s_L st).filter (atN nd)).length ≤ 62) (hB : fr = none → s_B st k 8 = 1) (hn : 100 ≤ n) (v : vM m h j N aw st W) : ∃ h' X, f11_interest K n m (nI nd) (toA fr k) (nI nm) ws (nI k) h = some h' ∧ vM m h' j N aw (inte N aw st nd fr nm ws k) (W ++ X) ∧ s_F (inte N aw st nd fr nm ws k) = s_F st ++ X ∧ ChM RX m h h' := by
  obtain ⟨v1, v2, v3, v4, v5, v6, v7, v8, v9, v10⟩ := id v
  have i6 : inb (nI nd) 6 = true := x_in (by omega) (by omega)
  have i7 : (nI nd).toNatClampNeg = nd := x_cl (by omega)
  have dd := v7 nd hnd
  have en := mentry (K := K) (n := n) (nm := nI nm) (ws := ws) hnd hn v4
  have stp := mstored (K := K) (n := n) (x := nI nm) hnd (by omega) (v8 nd hnd)
  -- a loop
  have lp : ∃ h' X, f11_interest_J53 K n m (nI nd) (toA fr k) (nI nm) ws h = some h' ∧ vM m h' j N aw (answ N aw (tick st 3) nd fr k (plN (nI nm) ws 2 nd)) (W ++ X) ∧ s_F (answ N aw (tick st 3) nd fr k (plN (nI nm) ws 2 nd)) = s_F st ++ X ∧ ChM RX m h h' := by
    obtain ⟨q1, q2⟩ := mtick (i := 3) (by omega) v
    obtain ⟨h', X, f1, f2, f3, f4⟩ := mfirst (K := K) (n := n) (nd := nd) (k := k) (fr := fr) (nm := nI nm) (ws := ws) (root := 2) (st := tick st 3) ok hnd (fun f hh => ⟨hf f hh, hF⟩) (fun hh => ⟨hk, hB hh⟩) q1
    refine ⟨h', X, ?_, f2, f3, (q2.up (by decide)).tr (f4.up (by decide))⟩
    simp only [f11_interest_J53, x_lt]
    show (bp (f11_firstNack K n m (nI nd) (toA fr k) (nI nm) ws 2 (sI h m (65 + 3) (h.1 m (65 + 3) + 1))) _) = _
    rw [f1, x_bp]
  -- no entry that knows it, not dead
  have main : ¬ (known (fs (isE nd (nI nm) ws) (s_L st)) k = true ∨ bL (s_D st nd) k = true) → ∃ h' X, f11_interest_J76 K n m (nI nd) (toA fr k) (nI nm) ws (nI k) (ixM nd 0 ((fs (isE nd (nI nm) ws) (s_L st)).map (fun r => (r.1.filter (atN nd), r.2.1, r.2.2.filter (atN nd))))) (ix 0 (fs (isN (nI nm)) (s_S st nd))) h = some h' ∧ vM m h' j N aw (inte N aw st nd fr nm ws k) (W ++ X) ∧ s_F (inte N aw st nd fr nm ws k) = s_F st ++ X ∧ ChM RX m h h' := by
    intro hno
    -- behind the stores
    have rest : goodS (fs (isN (nI nm)) (s_S st nd)) ws (s_n st) = none → ∃ h' X, f11_interest_J118 K n m (nI nd) (toA fr k) (nI nm) ws (nI k) (ixM nd 0 ((fs (isE nd (nI nm) ws) (s_L st)).map (fun r => (r.1.filter (atN nd), r.2.1, r.2.2.filter (atN nd))))) h = some h' ∧ vM m h' j N aw (inte N aw st nd fr nm ws k) (W ++ X) ∧ s_F (inte N aw st nd fr nm ws k) = s_F st ++ X ∧ ChM RX m h h' := by
      intro hg
      have ie : inte N aw st nd fr nm ws k = match sv N nd nm with
        | some s => answ N aw st nd fr k (plD (nI nm) (nI (s_n st + N (106 + 3 * s))) (nI nd) nd 0)
        | none => match fs (isE nd (nI nm) ws) (s_L st) with
          | some r => q_L (tick st 2) (r.1 ++ eJoin r.2.1 fr k :: r.2.2)
          | none => makeE N aw st nd fr nm ws k := by
        unfold inte; rw [if_neg hno, hg]; rfl
      unfold f11_interest_J118
      rw [mserveFor ok v1.1 hnm hnd (by omega), x_bp]
      cases hs : sv N nd nm with
      | some s =>
        rw [hs] at ie
        have hsl := svd_lt hs
        have h4 := ok.2.2.2.2.1
        have e5 : ¬ nI s = -1 := by rw [x_nm1 (by omega)]; exact not_false
        have sa := mserveAt (K := K) (n := n) v1.1 (k := s) (w := 2) (by omega)
        rw [show 104 + 3 * s + 2 = 106 + 3 * s by omega] at sa
        have sa : f11_serveAt K n m (nI s) 2 h = some (nI (N (106 + 3 * s))) := sa
        obtain ⟨h1, eh⟩ : ∃ h1, h1 = sI (sI (sI (sI h m 71 (nI (s_n st + N (106 + 3 * s)))) m 72 (nI nd)) m 73 (nI nd)) m 74 0 := ⟨_, rfl⟩
        have ch : ChM [171, 172, 173, 174] m h h1 := by
          rw [eh]; exact ChM.F (by simp) (ChM.F (by simp) (ChM.F (by simp) (ChM.F (by simp) ChM.rf)))
        have w : mvQ m h1 (plD (nI nm) (nI (s_n st + N (106 + 3 * s))) (nI nd) nd 0) := by
          refine ⟨fun _ => ⟨?_, ?_, ?_, ?_⟩, fun hh => absurd hh (by decide : ¬ (1 : Int32) = 2)⟩
          all_goals (rw [eh]; simp (disch := omega) only [rI_n, rI_e]; rfl)
        obtain ⟨h', X, d1, d2, d3, d4⟩ := mdataTo (K := K) (n := n) (nd := nd) (k := k) (fr := fr) (nm := nI nm) (st := st) ok hnd (fun f hh => ⟨hf f hh, hF⟩) (fun hh => ⟨hk, hB hh⟩) rfl rfl (v.kp ch (by decide)) w
        refine ⟨h', X, ?_, by rw [ie]; exact d2, by rw [ie]; exact d3, (ch.up (by decide)).tr (d4.up (by decide))⟩
        simp only [oI, if_neg e5, x_bp, f11_fromServer, sa, v2, nI_add, x_lt, ← eh, d1]
      | none =>
        rw [hs] at ie
        dsimp only at ie
        simp only [oI, if_true]
        cases hq : fs (isE nd (nI nm) ws) (s_L st) with
        | none =>
          rw [hq] at ie
          dsimp only at ie
          obtain ⟨h', X, d1, d2, d3, d4⟩ := mmakes (K := K) (n := n) (ws := ws) ok hM hnd hnm hk hf hF (hL hq (fun hh => hno (Or.inr hh))) hB hn v
          refine ⟨h', X, ?_, by rw [ie]; exact d2, by rw [ie]; exact d3, d4⟩
          simp only [Option.map_none, ixM, if_true, d1, x_bp]
        | some r =>
          obtain ⟨u, e, w⟩ := r
          rw [hq] at ie
          dsimp only at ie
          obtain ⟨l1, l2, -⟩ := fs_some hq
          have l2 : e.1 0 = nI nd ∧ e.1 1 = nI nm ∧ e.1 2 = ws := by simpa [isE] using l2
          obtain ⟨t1, t2⟩ := mtick (i := 2) (by omega) v
          have t4 := t1.2.2.2.1
          have t4 : mvE m (sI h m (65 + 2) (h.1 m (65 + 2) + 1)) (u ++ e :: w) := by rw [← l1]; exact t4
          obtain ⟨a1, a2, a3⟩ := mvE_at hnd l2.1 t4
          have e5 : ¬ nI (64 * nd + (u.filter (atN nd)).length) = -1 := by rw [x_nm1 (by omega)]; exact not_false
          obtain ⟨h', j1, j2, j3, j4⟩ := mjoins (K := K) (n := n) (k := k) (fr := fr) (by omega) hk hf a2
          refine ⟨h', [], ?_, ?_, by rw [ie, List.append_nil]; rfl, (t2.up (by decide)).tr (j4.up (by decide))⟩
          · simp only [Option.map_some, ixM, Nat.zero_add, if_neg e5, x_lt]
            show (bp (f11_joins K n m (nI (64 * nd + (u.filter (atN nd)).length)) (toA fr k) (nI k) (sI h m (65 + 2) (h.1 m (65 + 2) + 1))) _) = _
            rw [j1, x_bp]
          · rw [ie, List.append_nil]
            have e0 : (eJoin e fr k).1 0 = nI nd := by unfold eJoin; cases fr <;> exact l2.1
            exact t1.eL (j4.up (by decide)) (a3 h' _ e0 j3 j2)
    unfold f11_interest_J76
    cases hq : fs (isN (nI nm)) (s_S st nd) with
    | none =>
      obtain ⟨h', X, r1, r2, r3, r4⟩ := rest (by rw [hq]; rfl)
      exact ⟨h', X, by simp only [ix, if_true]; exact r1, r2, r3, r4⟩
    | some r =>
      obtain ⟨u, t, w⟩ := r
      obtain ⟨l1, l2, -⟩ := fs_some hq
      have l2 : t.1 = nI nm := by simpa [isN] using l2
      obtain ⟨s1, s2, s3⟩ := v8 nd hnd
      have l3 : u.length < 4 := by rw [l1] at s2; simp at s2; omega
      have e5 : ¬ nI u.length = -1 := by rw [x_nm1 (by omega)]; exact not_false
      have s4 := s3 u.length t (by rw [l1, ge_mid])
      have e4 : (6 : Int32) * nI nd + nI u.length = nI (6 * nd + u.length) := by rw [l_6, pk_mul, nI_add]
      have f5 : inb (nI (6 * nd + u.length)) 36 = true := x_in (by omega) (by omega)
      have f6 : (nI (6 * nd + u.length)).toNatClampNeg = 6 * nd + u.length := x_cl (by omega)
      simp only [ix, Nat.zero_add, if_neg e5, e4, f5, f6, x_gd, s4.2.1, v2]
      -- it is good
      have gd1 : goodS (fs (isN (nI nm)) (s_S st nd)) ws (s_n st) = some (u, t, w) → ∃ h' X, f11_interest_J106 K n m (nI nd) (toA fr k) (nI nm) (nI u.length) h = some h' ∧ vM m h' j N aw (inte N aw st nd fr nm ws k) (W ++ X) ∧ s_F (inte N aw st nd fr nm ws k) = s_F st ++ X ∧ ChM RX m h h' := by
        intro hg
        have ie : inte N aw st nd fr nm ws k = answ N aw (q_S (tick st 1) (ug (s_S st) nd (u ++ w ++ [t]))) nd fr k (plD (nI nm) t.2.1 t.2.2 nd 1) := by
          unfold inte; rw [if_neg hno, hg]
        obtain ⟨h1, eh⟩ : ∃ h1, h1 = sI (sI (sI (sI h m 71 t.2.1) m 72 t.2.2) m 73 (nI nd)) m 74 1 := ⟨_, rfl⟩
        have ch : ChM [171, 172, 173, 174] m h h1 := by
          rw [eh]; exact ChM.F (by simp) (ChM.F (by simp) (ChM.F (by simp) (ChM.F (by simp) ChM.rf)))
        have vv1 := v.kp ch (by decide)
        have w1 : mvQ m h1 (plD (nI nm) t.2.1 t.2.2 nd 1) := by
          refine ⟨fun _ => ⟨?_, ?_, ?_, ?_⟩, fun hh => absurd hh (by decide : ¬ (1 : Int32) = 2)⟩
          all_goals (rw [eh]; simp (disch := omega) only [rI_n, rI_e]; rfl)
        have ln : (u ++ t :: w).length ≤ N (5 + nd) := by rw [← l1]; exact hS
        obtain ⟨h2, p1, p2, p3⟩ := mputs (K := K) (n := n) (t := t) ok vv1.1.1 hnd (by omega) (by simp at ln; omega) (vv1.2.2.2.2.2.2.2.1 nd hnd)
        rw [l1, ptL_use ln (by rw [← l1, l2]; exact hq)] at p2
        have vv2 := vv1.sS p3 p2
        obtain ⟨q1, q2⟩ := mtick (i := 1) (by omega) vv2
        have w2 : mvQ m (sI h2 m (65 + 1) (h2.1 m (65 + 1) + 1)) (plD (nI nm) t.2.1 t.2.2 nd 1) := (w1.kp p3.ch (by decide)).kp q2 (by decide)
        obtain ⟨h', X, d1, d2, d3, d4⟩ := mdataTo (K := K) (n := n) (nd := nd) (k := k) (fr := fr) (nm := nI nm) (st := tick (q_S st (ug (s_S st) nd (u ++ w ++ [t]))) 1) ok hnd (fun f hh => ⟨hf f hh, hF⟩) (fun hh => ⟨hk, hB hh⟩) rfl rfl q1 w2
        refine ⟨h', X, ?_, by rw [ie]; exact d2, by rw [ie]; exact d3, (((ch.up (by decide)).tr (p3.ch.up (by decide))).tr (q2.up (by decide))).tr (d4.up (by decide))⟩
        have y71 : h1.1 m 71 = t.2.1 := (w1.1 rfl).1
        have y72 : h1.1 m 72 = t.2.2 := (w1.1 rfl).2.1
        rw [l2] at p1
        simp only [f11_interest_J106, f11_fromStore, x_lt, e4, f5, f6, x_gd, s4.2.1]
        simp (disch := omega) only [rI_n, s4.2.2]
        rw [← eh]
        simp (disch := omega) only [rI_e]
        rw [p1, x_bp]
        show (bp (bp (f11_dataTo K n m (nI nd) (toA fr k) (nI nm) (sI h2 m (65 + 1) (h2.1 m (65 + 1) + 1))) _) _) = _
        rw [d1, x_bp, x_bp]
      by_cases hw : ws = 0
      · obtain ⟨h', X, r1, r2, r3, r4⟩ := gd1 (by rw [hq]; simp [goodS, hw])
        exact ⟨h', X, by rw [if_pos hw]; exact r1, r2, r3, r4⟩
      · rw [if_neg hw]
        by_cases hl : t.2.1 < nI (s_n st)
        · obtain ⟨h', X, r1, r2, r3, r4⟩ := rest (by rw [hq]; simp [goodS, hw, hl])
          exact ⟨h', X, by rw [if_pos hl]; exact r1, r2, r3, r4⟩
        · obtain ⟨h', X, r1, r2, r3, r4⟩ := gd1 (by rw [hq]; simp [goodS, hl])
          exact ⟨h', X, by rw [if_neg hl]; exact r1, r2, r3, r4⟩
  unfold f11_interest
  rw [en, x_bp, stp, x_bp, i6, x_gd, i7, dd, mhasL (by omega)]
  by_cases c2 : bL (s_D st nd) k = true
  · rw [if_pos c2, if_neg b_10]
    obtain ⟨h', X, r1, r2, r3, r4⟩ := lp
    have ie : inte N aw st nd fr nm ws k = answ N aw (tick st 3) nd fr k (plN (nI nm) ws 2 nd) := by unfold inte; rw [if_pos (Or.inr c2)]
    exact ⟨h', X, r1, by rw [ie]; exact r2, by rw [ie]; exact r3, r4⟩
  · rw [if_neg c2, if_pos rfl]
    cases hq : fs (isE nd (nI nm) ws) (s_L st) with
    | none =>
      rw [hq] at main
      simp only [Option.map_none, ixM, if_true]
      obtain ⟨h', X, r1, r2, r3, r4⟩ := main (by rintro (hh | hh); cases hh; exact c2 hh)
      exact ⟨h', X, r1, r2, r3, r4⟩
    | some r =>
      obtain ⟨u, e, w⟩ := r
      rw [hq] at main
      obtain ⟨l1, l2, -⟩ := fs_some hq
      have l2 : e.1 0 = nI nd ∧ e.1 1 = nI nm ∧ e.1 2 = ws := by simpa [isE] using l2
      have t4 : mvE m h (u ++ e :: w) := by rw [← l1]; exact v4
      obtain ⟨a1, a2, -⟩ := mvE_at hnd l2.1 t4
      have e5 : ¬ nI (64 * nd + (0 + (u.filter (atN nd)).length)) = -1 := by rw [x_nm1 (by omega)]; exact not_false
      have e8 : inb (nI (64 * nd + (0 + (u.filter (atN nd)).length))) 384 = true := x_in (by omega) (by omega)
      have e9 : (nI (64 * nd + (0 + (u.filter (atN nd)).length))).toNatClampNeg = 64 * nd + (u.filter (atN nd)).length := by rw [x_cl (by omega)]; omega
      simp only [Option.map_some, ixM, if_neg e5, e8, e9, x_gd, a2.2.2.2.2.1, mhasL (show k < 64 by omega)]
      by_cases c1 : bL (e.2 5) k = true
      · rw [if_pos c1, if_neg b_10]
        obtain ⟨h', X, r1, r2, r3, r4⟩ := lp
        have ie : inte N aw st nd fr nm ws k = answ N aw (tick st 3) nd fr k (plN (nI nm) ws 2 nd) := by unfold inte; rw [if_pos (Or.inl (by rw [hq]; exact c1))]
        exact ⟨h', X, r1, by rw [ie]; exact r2, by rw [ie]; exact r3, r4⟩
      · rw [if_neg c1, if_pos rfl]
        obtain ⟨h', X, r1, r2, r3, r4⟩ := main (by rintro (hh | hh); exact c1 hh; exact c2 hh)
        exact ⟨h', X, r1, r2, r3, r4⟩
end MInt
