/-! the reference sends and settles -/
section MSend
variable {K : Ly} {n m j : Nat} {h : Hp} {N : Nat → Nat} {aw : Int32} {W : List Ms}
theorem mtick {i : Nat} {st : St} (hi : i < 6) (v : vM m h j N aw st W) : vM m (sI h m (65 + i) (h.1 m (65 + i) + 1)) j N aw (tick st i) W ∧ ChM [165, 166, 167, 168, 169, 170] m h (sI h m (65 + i) (h.1 m (65 + i) + 1)) := by
  obtain ⟨v1, v2, v3, v4, v5, v6, v7, v8, v9, v10⟩ := v
  have q : ChM [165, 166, 167, 168, 169, 170] m h (sI h m (65 + i) (h.1 m (65 + i) + 1)) := ChM.F (by simp only [List.mem_cons, List.not_mem_nil, or_false]; omega) ChM.rf
  refine ⟨⟨v1.kp q (by decide), mnow_kp v2 q (by decide), mdn_kp v3 q (by decide), v4.kp q (by decide) (by decide), v5.kp q (by decide) (by decide), v6.kp q (by decide), v7.kp q (by decide), v8.kp q (by decide), v9.kp q (by decide), fun i' hi' => ?_⟩, q⟩
  show _ = ug (s_T st) i _ i'
  by_cases hji : i' = i
  · subst hji; rw [ug_e, rI_e, v10 i' hi']
  · rw [ug_n hji, rI_n (by omega)]; exact v10 i' hi'
theorem msends {a b : Nat} {kd nm ws nc : Int32} {p : Ms} {st : St} (ok : nOk N) (ha : a < 6) (hb : b < 6) (hF : (s_F st).length < 360) (p0 : kd = p 0) (p4 : nm = p 4) (pi : p 0 = 0 → ws = p 5 ∧ nc = p 6) (pn : p 0 = 2 → ws = p 5) (v : vM m h j N aw st W) (w : mvQ m h p) : ∃ h' X, f11_sends K n m kd (nI a) (nI b) nm ws nc h = some h' ∧ vM m h' j N aw (send N aw st a b p) (W ++ X) ∧ s_F (send N aw st a b p) = s_F st ++ X ∧ ChM [29, 30, 31, 32, 33, 34, 35, 36, 37, 38, 39, 145, 165, 166, 167, 168, 169, 170] m h h' := by
  obtain ⟨v1, v2, v3, v4, v5, v6, v7, v8, v9, v10⟩ := id v
  have hN : N 2 ≤ 15 := ok.2.2.1
  have up := misUp (K := K) (n := n) ok v1.2 v3 (a := a) (b := b) (by omega)
  cases hu : upL N aw (s_d st) (6 * a + b) with
  | none =>
    obtain ⟨q1, q2⟩ := mtick (i := 5) (by omega) v
    refine ⟨sI h m 70 (h.1 m 70 + 1), [], ?_, ?_, ?_, q2.up (by simp)⟩
    · rw [hu] at up
      simp only [f11_sends, up, x_bp, Option.isSome_none, Bool.false_eq_true, if_false, if_true, x_lt]
    · simp only [send, hu, List.append_nil]; exact q1
    · simp only [send, hu, List.append_nil]; rfl
  | some l =>
    obtain ⟨u1, u2, u3⟩ := upL_lt hu
    obtain ⟨w1, w2, w3⟩ := v5
    have g1 : inb (nI W.length) 4096 = true := x_in (by omega) (by omega)
    have g2 : (nI W.length).toNatClampNeg = W.length := x_cl (by omega)
    have e0 : (6 : Int32) * nI a + nI b = nI (6 * a + b) := by rw [l_6, pk_mul, nI_add]
    have e1 : inb (nI (6 * a + b)) 36 = true := x_in (by omega) (by omega)
    have e2 : (nI (6 * a + b)).toNatClampNeg = 6 * a + b := x_cl (by omega)
    have e3 : h.1 (m + 11) (6 * a + b) = nI l := by rw [v1.2 _ (by omega), u3]; rfl
    obtain ⟨h6, eh6⟩ : ∃ h6, h6 = sI (sI (sI (sI (sI (sI h (m + 29) W.length kd) (m + 30) W.length (nI a)) (m + 31) W.length (nI b)) (m + 32) W.length nm) (m + 33) W.length ws) (m + 34) W.length nc := ⟨_, rfl⟩
    obtain ⟨h', eh⟩ : ∃ h', h' = sI (sI (sI (sI (sI (sI (sI h6 (m + 35) W.length (nI (s_n st + N (13 + 3 * l)))) (m + 36) W.length (h.1 m 71)) (m + 37) W.length (h.1 m 72)) (m + 38) W.length (h.1 m 73)) (m + 39) W.length (h.1 m 74)) m 45 (nI (W.length + 1))) m 65 (s_T st 0 + 1) := ⟨_, rfl⟩
    have ch6 : ChM [29, 30, 31, 32, 33, 34, 35, 36, 37, 38, 39, 145, 165, 166, 167, 168, 169, 170] m h h6 := by
      rw [eh6]
      exact ChM.A (by omega) (by simp) (ChM.A (by omega) (by simp) (ChM.A (by omega) (by simp) (ChM.A (by omega) (by simp) (ChM.A (by omega) (by simp) (ChM.A (by omega) (by simp) ChM.rf)))))
    have ch : ChM [29, 30, 31, 32, 33, 34, 35, 36, 37, 38, 39, 145, 165, 166, 167, 168, 169, 170] m h h' := by
      rw [eh]
      exact ChM.F (by simp) (ChM.F (by simp) (ChM.A (by omega) (by simp) (ChM.A (by omega) (by simp) (ChM.A (by omega) (by simp) (ChM.A (by omega) (by simp) (ChM.A (by omega) (by simp) ch6))))))
    have la := mlinkAt (K := K) (n := n) (v1.kp ch6 (by decide)).1 (l := l) (w := 2) (by omega)
    rw [show 11 + 3 * l + 2 = 13 + 3 * l by omega] at la
    have la : f11_linkAt K n m (nI l) 2 h6 = some (nI (N (13 + 3 * l))) := la
    refine ⟨h', [msg a b (nI (s_n st + N (13 + 3 * l))) p], ?_, ?_, ?_, ch⟩
    · rw [hu] at up
      have t0 : h.1 m 65 = s_T st 0 := v10 0 (by omega)
      simp only [f11_sends, up, x_bp, Option.isSome_some, if_true, if_neg b_10, x_lt, e0, e1, e2]
      simp (disch := omega) only [rI_n, w1, g1, g2, x_gd]
      rw [← eh6]
      rw [e3, la, x_bp, v2, nI_add, nI_1, t0, ← eh]
    · simp only [send, hu]
      have el : (s_F st ++ [msg a b (nI (s_n st + N (13 + 3 * l))) p]).length = (s_F st).length + 1 := by simp
      refine ⟨v1.kp ch (by decide), mnow_kp v2 ch (by decide), mdn_kp v3 ch (by decide), v4.kp ch (by decide) (by decide), ⟨?_, ?_, fun i q hq => ?_⟩, v6.kp ch (by decide), v7.kp ch (by decide), v8.kp ch (by decide), v9.kp ch (by decide), fun i hi => ?_⟩
      · rw [eh, rI_n (by omega), rI_e]; simp
      · show (W ++ _).length ≤ (s_F st ++ [msg a b (nI (s_n st + N (13 + 3 * l))) p]).length + 3000
        rw [el]; simp; omega
      · by_cases hi : i < W.length
        · rw [List.getElem?_append_left hi] at hq
          obtain ⟨z1, z2, z3, z4, z5, z6, z7, z8⟩ := w3 i q hq
          unfold agW
          rw [eh, eh6]
          simp (disch := omega) only [rI_n]
          exact ⟨z1, z2, z3, z4, z5, z6, z7, z8⟩
        · have hi2 : i = W.length := by
            have := (List.getElem?_eq_some_iff.mp hq).1
            simp at this; omega
          subst hi2
          rw [List.getElem?_append_right (Nat.le_refl _)] at hq
          simp only [Nat.sub_self, List.getElem?_cons_zero, Option.some.injEq] at hq
          subst hq
          unfold agW
          rw [eh, eh6]
          simp (disch := omega) only [rI_n, rI_e]
          refine ⟨p0, rfl, rfl, p4, rfl, fun hh => pi hh, fun hh => w.1 hh, fun hh => ?_⟩
          obtain ⟨z1, z2, z3⟩ := w.2 hh
          exact ⟨pn hh, z1, z2, z3⟩
      · show _ = ug (s_T st) 0 _ i
        by_cases hi0 : i = 0
        · subst hi0; rw [eh, ug_e, rI_e]; rfl
        · rw [ug_n hi0, eh, eh6]
          simp (disch := omega) only [rI_n]; exact v10 i hi
    · simp only [send, hu]; rfl
theorem mgets {k : Nat} {p : Ms} {st : St} (hk : k < 60) (ha : s_B st k 8 = 1) (hp : p 0 = 1) (v : vM m h j N aw st W) (w : mvQ m h p) : ∃ h', f11_gets K n m (nI k) h = some h' ∧ vM m h' j N aw (settle st k p) W ∧ ChM [40, 41, 43, 44, 45, 46, 47] m h h' := by
  obtain ⟨v1, v2, v3, v4, v5, v6, v7, v8, v9, v10⟩ := v
  have e2 : inb (nI k) 64 = true := x_in (by omega) (by omega)
  have e3 : (nI k).toNatClampNeg = k := x_cl (by omega)
  obtain ⟨z1, z2, z3, z4⟩ := w.1 hp
  obtain ⟨h', eh⟩ : ∃ h', h' = sI (sI (sI (sI h (m + 40) k 1) (m + 41) k (nI (s_n st))) (m + 43) k (p 9)) (m + 44) k (p 10) := ⟨_, rfl⟩
  have ch : ChM [40, 41, 43, 44, 45, 46, 47] m h h' := by
    rw [eh]; exact ChM.A (by omega) (by simp) (ChM.A (by omega) (by simp) (ChM.A (by omega) (by simp) (ChM.A (by omega) (by simp) ChM.rf)))
  refine ⟨h', ?_, ⟨v1.kp ch (by decide), mnow_kp v2 ch (by decide), mdn_kp v3 ch (by decide), v4.kp ch (by decide) (by decide), v5.kp ch (by decide) (by decide), v6.kp ch (by decide), v7.kp ch (by decide), v8.kp ch (by decide), fun i hi => ?_, v10.kp ch (by decide)⟩, ch⟩
  · simp only [f11_gets, e2, e3, x_gd, x_lt]
    simp (disch := omega) only [rI_n, v2, z3, z4]
    rw [← eh]
  · show mB1 m h' i (ug (s_B st) k _ i)
    by_cases hik : i = k
    · subst hik
      rw [ug_e]
      obtain ⟨b1, b2⟩ := v9 i hi
      obtain ⟨c1, c2, -⟩ := b1 ha
      have f8 : fSet (s_B st i) (s_n st) p 8 = 1 := by simp [fSet, hp, ha]
      have f0 : fSet (s_B st i) (s_n st) p 0 = 1 := by simp [fSet, hp]
      refine ⟨fun _ => ⟨?_, ?_, fun _ => ⟨?_, ?_, ?_⟩, fun hh => ?_, fun hh => ?_⟩, fun hh => absurd f8 hh⟩
      · rw [eh, f0]; simp (disch := omega) only [rI_n, rI_e]
      · rw [eh]; simp (disch := omega) only [rI_n, rI_e]; rw [c2]; simp [fSet, hp]
      · rw [eh]; simp (disch := omega) only [rI_n, rI_e]; simp [fSet, hp]
      · rw [eh]; simp (disch := omega) only [rI_n, rI_e]; simp [fSet, hp]
      · rw [eh]; simp (disch := omega) only [rI_n, rI_e]; simp [fSet, hp]
      · rw [f0] at hh; exact absurd hh (by decide)
      · rw [f0] at hh; exact absurd hh (by decide)
    · rw [ug_n hik]
      refine (v9 i hi).kp (fun r hr => ?_)
      rw [eh]; simp (disch := omega) only [rI_n]
theorem mrefused {k : Nat} {p : Ms} {st : St} (hk : k < 60) (ha : s_B st k 8 = 1) (hp : p 0 = 2) (v : vM m h j N aw st W) (w : mvQ m h p) : ∃ h', f11_refused K n m (nI k) h = some h' ∧ vM m h' j N aw (settle st k p) W ∧ ChM [40, 41, 43, 44, 45, 46, 47] m h h' := by
  obtain ⟨v1, v2, v3, v4, v5, v6, v7, v8, v9, v10⟩ := v
  have e2 : inb (nI k) 64 = true := x_in (by omega) (by omega)
  have e3 : (nI k).toNatClampNeg = k := x_cl (by omega)
  have hp1 : ¬ p 0 = 1 := by rw [hp]; decide
  obtain ⟨z1, z2, z3⟩ := w.2 hp
  obtain ⟨h', eh⟩ : ∃ h', h' = sI (sI (sI (sI (sI h (m + 40) k 2) (m + 41) k (nI (s_n st))) (m + 45) k (p 7)) (m + 46) k (p 8)) (m + 47) k (p 9) := ⟨_, rfl⟩
  have ch : ChM [40, 41, 43, 44, 45, 46, 47] m h h' := by
    rw [eh]; exact ChM.A (by omega) (by simp) (ChM.A (by omega) (by simp) (ChM.A (by omega) (by simp) (ChM.A (by omega) (by simp) (ChM.A (by omega) (by simp) ChM.rf))))
  refine ⟨h', ?_, ⟨v1.kp ch (by decide), mnow_kp v2 ch (by decide), mdn_kp v3 ch (by decide), v4.kp ch (by decide) (by decide), v5.kp ch (by decide) (by decide), v6.kp ch (by decide), v7.kp ch (by decide), v8.kp ch (by decide), fun i hi => ?_, v10.kp ch (by decide)⟩, ch⟩
  · simp only [f11_refused, e2, e3, x_gd, x_lt]
    simp (disch := omega) only [rI_n, v2, z1, z2, z3]
    rw [← eh]
  · show mB1 m h' i (ug (s_B st) k _ i)
    by_cases hik : i = k
    · subst hik
      rw [ug_e]
      obtain ⟨b1, b2⟩ := v9 i hi
      obtain ⟨c1, c2, -⟩ := b1 ha
      have f8 : fSet (s_B st i) (s_n st) p 8 = 1 := by simp [fSet, hp1, ha]
      have f0 : fSet (s_B st i) (s_n st) p 0 = 2 := by simp [fSet, hp1]
      refine ⟨fun _ => ⟨?_, ?_, fun hh => ?_, fun _ => ⟨?_, ?_, ?_, ?_⟩, fun hh => ?_⟩, fun hh => absurd f8 hh⟩
      · rw [eh, f0]; simp (disch := omega) only [rI_n, rI_e]
      · rw [eh]; simp (disch := omega) only [rI_n, rI_e]; rw [c2]; simp [fSet, hp1]
      · rw [f0] at hh; exact absurd hh (by decide)
      · rw [eh]; simp (disch := omega) only [rI_n, rI_e]; simp [fSet, hp1]
      · rw [eh]; simp (disch := omega) only [rI_n, rI_e]; simp [fSet, hp1]
      · rw [eh]; simp (disch := omega) only [rI_n, rI_e]; simp [fSet, hp1]
      · rw [eh]; simp (disch := omega) only [rI_n, rI_e]; simp [fSet, hp1]
      · rw [f0] at hh; exact absurd hh (by decide)
    · rw [ug_n hik]
      refine (v9 i hi).kp (fun r hr => ?_)
      rw [eh]; simp (disch := omega) only [rI_n]
def toA (fr : Option Nat) (k : Nat) : Int32 := match fr with
  | none => nI (100 + k)
  | some f => nI f
def RA : List Nat := [29, 30, 31, 32, 33, 34, 35, 36, 37, 38, 39, 40, 41, 43, 44, 45, 46, 47, 145, 165, 166, 167, 168, 169, 170]
theorem toA_n {k : Nat} (hk : k < 60) : ¬ nI (100 + k) < (100 : Int32) ∧ nI (100 + k) - 100 = nI k := by
  refine ⟨by rw [l_100]; exact nI_nlt (by omega) (by omega), ?_⟩
  rw [l_100, pk_sub (by omega), show 100 + k - 100 = k by omega]
theorem mdataTo {nd k : Nat} {fr : Option Nat} {nm : Int32} {p : Ms} {st : St} (ok : nOk N) (hn : nd < 6) (hf : ∀ f, fr = some f → f < 6 ∧ (s_F st).length < 360) (hk : fr = none → k < 60 ∧ s_B st k 8 = 1) (hp : p 0 = 1) (p4 : nm = p 4) (v : vM m h j N aw st W) (w : mvQ m h p) : ∃ h' X, f11_dataTo K n m (nI nd) (toA fr k) nm h = some h' ∧ vM m h' j N aw (answ N aw st nd fr k p) (W ++ X) ∧ s_F (answ N aw st nd fr k p) = s_F st ++ X ∧ ChM RA m h h' := by
  cases fr with
  | none =>
    obtain ⟨hk1, hk2⟩ := hk rfl
    obtain ⟨h', q1, q2, q3⟩ := mgets (K := K) (n := n) hk1 hk2 hp v w
    refine ⟨h', [], ?_, by rw [List.append_nil]; exact q2, by rw [List.append_nil]; rfl, q3.up (by decide)⟩
    obtain ⟨t1, t2⟩ := toA_n hk1
    simp only [f11_dataTo, toA, if_neg t1, t2, q1, x_bp]
  | some f =>
    obtain ⟨f1, f2⟩ := hf f rfl
    obtain ⟨h', X, q1, q2, q3, q4⟩ := msends (K := K) (n := n) (a := nd) (b := f) (kd := 1) (nm := nm) (ws := 0) (nc := 0) (p := p) ok hn f1 f2 hp.symm p4 (fun hh => by rw [hp] at hh; exact absurd hh (by decide)) (fun hh => by rw [hp] at hh; exact absurd hh (by decide)) v w
    refine ⟨h', X, ?_, q2, q3, q4.up (by decide)⟩
    have t1 : nI f < (100 : Int32) := by rw [l_100]; exact nI_lt (by omega) (by omega)
    simp only [f11_dataTo, toA, if_pos t1, q1, x_bp]
theorem mnackTo {nd k : Nat} {fr : Option Nat} {nm ws : Int32} {p : Ms} {st : St} (ok : nOk N) (hn : nd < 6) (hf : ∀ f, fr = some f → f < 6 ∧ (s_F st).length < 360) (hk : fr = none → k < 60 ∧ s_B st k 8 = 1) (hp : p 0 = 2) (p4 : nm = p 4) (p5 : ws = p 5) (v : vM m h j N aw st W) (w : mvQ m h p) : ∃ h' X, f11_nackTo K n m (nI nd) (toA fr k) nm ws h = some h' ∧ vM m h' j N aw (answ N aw st nd fr k p) (W ++ X) ∧ s_F (answ N aw st nd fr k p) = s_F st ++ X ∧ ChM RA m h h' := by
  cases fr with
  | none =>
    obtain ⟨hk1, hk2⟩ := hk rfl
    obtain ⟨h', q1, q2, q3⟩ := mrefused (K := K) (n := n) hk1 hk2 hp v w
    refine ⟨h', [], ?_, by rw [List.append_nil]; exact q2, by rw [List.append_nil]; rfl, q3.up (by decide)⟩
    obtain ⟨t1, t2⟩ := toA_n hk1
    simp only [f11_nackTo, toA, if_neg t1, t2, q1, x_bp]
  | some f =>
    obtain ⟨f1, f2⟩ := hf f rfl
    obtain ⟨h', X, q1, q2, q3, q4⟩ := msends (K := K) (n := n) (a := nd) (b := f) (kd := 2) (nm := nm) (ws := ws) (nc := 0) (p := p) ok hn f1 f2 hp.symm p4 (fun hh => by rw [hp] at hh; exact absurd hh (by decide)) (fun _ => p5) v w
    refine ⟨h', X, ?_, q2, q3, q4.up (by decide)⟩
    have t1 : nI f < (100 : Int32) := by rw [l_100]; exact nI_lt (by omega) (by omega)
    simp only [f11_nackTo, toA, if_pos t1, q1, x_bp]
def RB : List Nat := RA ++ [171, 172, 173, 174]
/-- all that a run changes, but for the minute and the links that are down -/
def RX : List Nat := [12, 13, 14, 15, 16, 17, 18, 19, 20, 21, 22, 23, 24, 25, 26, 27, 28, 29, 30, 31, 32, 33, 34, 35, 36, 37, 38, 39, 40, 41, 42, 43, 44, 45, 46, 47, 145, 165, 166, 167, 168, 169, 170, 171, 172, 173, 174]
theorem mfirst {nd k : Nat} {fr : Option Nat} {nm ws root : Int32} {st : St} (ok : nOk N) (hn : nd < 6) (hf : ∀ f, fr = some f → f < 6 ∧ (s_F st).length < 360) (hk : fr = none → k < 60 ∧ s_B st k 8 = 1) (v : vM m h j N aw st W) : ∃ h' X, f11_firstNack K n m (nI nd) (toA fr k) nm ws root h = some h' ∧ vM m h' j N aw (answ N aw st nd fr k (plN nm ws root nd)) (W ++ X) ∧ s_F (answ N aw st nd fr k (plN nm ws root nd)) = s_F st ++ X ∧ ChM RB m h h' := by
  obtain ⟨h1, eh⟩ : ∃ h1, h1 = sI (sI (sI (sI h m 71 1) m 72 root) m 73 (nI nd)) m 74 0 := ⟨_, rfl⟩
  have ch : ChM [171, 172, 173, 174] m h h1 := by
    rw [eh]; exact ChM.F (by simp) (ChM.F (by simp) (ChM.F (by simp) (ChM.F (by simp) ChM.rf)))
  have w : mvQ m h1 (plN nm ws root nd) := by
    refine ⟨fun hh => absurd hh (by decide : ¬ (2 : Int32) = 1), fun _ => ⟨?_, ?_, ?_⟩⟩
    all_goals (rw [eh]; simp (disch := omega) only [rI_n, rI_e]; rfl)
  obtain ⟨h', X, q1, q2, q3, q4⟩ := mnackTo (K := K) (n := n) (nm := nm) (ws := ws) ok hn hf hk rfl rfl rfl (v.kp ch (by decide)) w
  refine ⟨h', X, ?_, q2, q3, (ch.up (by decide)).tr (q4.up (by decide))⟩
  simp only [f11_firstNack, x_lt, ← eh, q1, x_bp]
end MSend
