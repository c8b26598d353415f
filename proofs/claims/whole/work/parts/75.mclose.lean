/-! the reference closes entries -/
section MClose
variable {K : Ly} {n m j : Nat} {h : Hp} {N : Nat → Nat} {aw : Int32} {W : List Ms}
theorem cb_le (x : Int32) : ∀ (a b i : Nat), cb x a i ≤ cb x (a + b) i := by
  intro a
  induction a with
  | zero => exact fun b i => Nat.zero_le _
  | succ a ih =>
    intro b i
    have := ih b (i + 1)
    rw [show a + 1 + b = (a + b) + 1 by omega]
    simp only [cb]; omega
theorem clN_app {nd : Nat} {x : Int32} {p : Ms} : ∀ (a b i : Nat) (st : St), clN N aw nd x p (a + b) i st = clN N aw nd x p b (i + a) (clN N aw nd x p a i st) := by
  intro a
  induction a with
  | zero => intro b i st; simp only [Nat.zero_add, Nat.add_zero, clN]
  | succ a ih =>
    intro b i st
    rw [show a + 1 + b = (a + b) + 1 by omega]
    simp only [clN]
    rw [ih, show i + 1 + a = i + (a + 1) by omega]
theorem clN_no {nd : Nat} {x : Int32} {p : Ms} : ∀ (b i : Nat) (st : St), (∀ k, i ≤ k → k < i + b → bI x k = false) → clN N aw nd x p b i st = st := by
  intro b
  induction b with
  | zero => exact fun i st _ => rfl
  | succ b ih =>
    intro i st hb
    simp only [clN]
    rw [if_neg (by rw [hb i (by omega) (by omega)]; decide)]
    exact ih (i + 1) st (fun k h1 h2 => hb k (by omega) (by omega))
theorem clN_sh {nd : Nat} {x : Int32} {p : Ms} (hi : ∀ i, bI x i = true → i < N 0) {st : St} (ok : nOk N) : clN N aw nd x p (N 0) 0 st = clN N aw nd x p 6 0 st := by
  have b0 := ok.1
  have := clN_app (N := N) (aw := aw) (nd := nd) (x := x) (p := p) (N 0) (6 - N 0) 0 st
  rw [show N 0 + (6 - N 0) = 6 by omega] at this
  rw [this]
  refine (clN_no _ _ _ (fun k h1 h2 => ?_)).symm
  cases hb : bI x k with
  | false => rfl
  | true => have := hi k hb; omega
theorem clS_app {x : Int64} {p : Ms} : ∀ (a b i : Nat) (st : St), clS x p (a + b) i st = clS x p b (i + a) (clS x p a i st) := by
  intro a
  induction a with
  | zero => intro b i st; simp only [Nat.zero_add, Nat.add_zero, clS]
  | succ a ih =>
    intro b i st
    rw [show a + 1 + b = (a + b) + 1 by omega]
    simp only [clS]
    rw [ih, show i + 1 + a = i + (a + 1) by omega]
theorem clS_no {x : Int64} {p : Ms} : ∀ (b i : Nat) (st : St), (∀ k, i ≤ k → k < i + b → bL x k = false) → clS x p b i st = st := by
  intro b
  induction b with
  | zero => exact fun i st _ => rfl
  | succ b ih =>
    intro i st hb
    simp only [clS]
    rw [if_neg (by rw [hb i (by omega) (by omega)]; decide)]
    exact ih (i + 1) st (fun k h1 h2 => hb k (by omega) (by omega))
theorem clS_sh {x : Int64} {p : Ms} (hi : ∀ i, bL x i = true → i < 60) {st : St} : clS x p 64 0 st = clS x p 60 0 st := by
  have := clS_app (x := x) (p := p) 60 4 0 st
  rw [this, clS_no]
  intro k h1 h2
  cases hb : bL x k with
  | false => rfl
  | true => have := hi k hb; omega
theorem mansD_1 {q nd : Nat} {e : En} {p : Ms} (ok : nOk N) (hq : q < 384) (hnd : nd < 6) (hp : p 0 = 1) (p4 : e.1 1 = p 4) (hn : 100 ≤ n) : ∀ (d i fu : Nat) (h : Hp) (st : St) (W : List Ms), i + d = N 0 → d < fu → vM m h j N aw st W → mvQ m h p → agR h m q e → (s_F st).length + cb (e.1 3) d i ≤ 360 → ∃ h' X, f11_answers_L2 K n m (nI nd)  (nI q) fu (nI i) h = f11_answers_L43 K n m (nI nd) (nI q) n (nI 0) h' ∧ vM m h' j N aw (clN N aw nd (e.1 3) p d i st) (W ++ X) ∧ s_F (clN N aw nd (e.1 3) p d i st) = s_F st ++ X ∧ mvQ m h' p ∧ agR h' m q e ∧ ChM RX m h h' := by
  have b0 := ok.1
  have e5 : inb (nI q) 384 = true := x_in (by omega) (by omega)
  have e6 : (nI q).toNatClampNeg = q := x_cl (by omega)
  intro d
  induction d with
  | zero =>
    intro i fu h st W hi hf v w ag hF
    obtain ⟨fu, rfl⟩ : ∃ g, fu = g + 1 := ⟨fu - 1, by omega⟩
    have nn : h.1 m 23 = nI (N 0) := v.1.1.2.2.1
    have e1 : nI (N 0) ≤ nI i := nI_le (by omega) (by omega)
    refine ⟨h, [], ?_, by rw [List.append_nil]; exact v, by rw [List.append_nil]; rfl, w, ag, ChM.rf⟩
    simp only [f11_answers_L2, nn, if_pos e1]; rfl
  | succ d ih =>
    intro i fu h st W hi hf v w ag hF
    obtain ⟨fu, rfl⟩ : ∃ g, fu = g + 1 := ⟨fu - 1, by omega⟩
    have nn : h.1 m 23 = nI (N 0) := v.1.1.2.2.1
    have e1 : ¬ nI (N 0) ≤ nI i := nI_ge (by omega) (by omega)
    have un : f11_answers_L2 K n m (nI nd)  (nI q) (fu + 1) (nI i) h = if bI (e.1 3) i = true then bp (f11_dataTo K n m (nI nd) (toA (some i) 0) (e.1 1) h) fun h7 => f11_answers_L2 K n m (nI nd)  (nI q) fu (nI (i + 1)) h7 else f11_answers_L2 K n m (nI nd)  (nI q) fu (nI (i + 1)) h := by
      simp only [f11_answers_L2, nn, if_neg e1, e5, e6, x_gd, ag.2.2.1, ag.1, mhas (show i < 32 by omega), x_lt, nI_1, toA]
      by_cases hb : bI (e.1 3) i = true <;> simp [hb]
    rw [un]
    by_cases hb : bI (e.1 3) i = true
    · have hF2 : cb (e.1 3) (d + 1) i = 1 + cb (e.1 3) d (i + 1) := by simp [cb, hb]
      obtain ⟨h1, X1, s1, s2, s3, s4⟩ := mdataTo (K := K) (n := n) (nd := nd) (k := 0) (fr := some i) (nm := e.1 1) ok hnd (fun f hh => ⟨by cases hh; omega, by omega⟩) (fun hh => by cases hh) hp p4 v w
      have sf := send_F (N := N) (aw := aw) (st := st) (a := nd) (b := i) (p := p)
      obtain ⟨h2, X2, t1, t2, t3, t4, t5, t6⟩ := ih (i + 1) fu h1 (send N aw st nd i p) (W ++ X1) (by omega) (by omega) s2 (w.kp s4 (by decide)) (ag.kp s4 (by decide)) (by omega)
      refine ⟨h2, X1 ++ X2, ?_, ?_, ?_, t4, t5, (s4.up (by decide)).tr t6⟩
      · rw [if_pos hb, s1, x_bp]; exact t1
      · simp only [clN, if_pos hb]; rw [← List.append_assoc]; exact t2
      · simp only [clN, if_pos hb]; rw [t3, ← List.append_assoc]
        exact congrArg (· ++ X2) s3
    · have hF2 : cb (e.1 3) (d + 1) i = cb (e.1 3) d (i + 1) := by simp [cb, hb]
      obtain ⟨h2, X2, t1, t2, t3, t4, t5, t6⟩ := ih (i + 1) fu h st W (by omega) (by omega) v w ag (by omega)
      refine ⟨h2, X2, ?_, ?_, ?_, t4, t5, t6⟩
      · rw [if_neg hb]; exact t1
      · simp only [clN, if_neg hb]; exact t2
      · simp only [clN, if_neg hb]; exact t3
theorem mansD_2 {q nd : Nat} {e : En} {p : Ms} (hq : q < 384) (hp : p 0 = 1) (ha : ∀ k, bL (e.2 4) k = true → k < 60) : ∀ (d k fu : Nat) (h : Hp) (st : St), k + d = 64 → d < fu → (∀ k, bL (e.2 4) k = true → s_B st k 8 = 1) → vM m h j N aw st W → mvQ m h p → agR h m q e → ∃ h' fu', f11_answers_L43 K n m (nI nd) (nI q) fu (nI k) h = f11_answers_L43 K n m (nI nd) (nI q) (fu' + 1) (nI 64) h' ∧ vM m h' j N aw (clS (e.2 4) p d k st) W ∧ mvQ m h' p ∧ agR h' m q e ∧ ChM RX m h h' := by
  have e5 : inb (nI q) 384 = true := x_in (by omega) (by omega)
  have e6 : (nI q).toNatClampNeg = q := x_cl (by omega)
  intro d
  induction d with
  | zero =>
    intro k fu h st hk hf hB v w ag
    obtain ⟨fu, rfl⟩ : ∃ g, fu = g + 1 := ⟨fu - 1, by omega⟩
    refine ⟨h, fu, ?_, v, w, ag, ChM.rf⟩
    rw [show k = 64 by omega]
  | succ d ih =>
    intro k fu h st hk hf hB v w ag
    obtain ⟨fu, rfl⟩ : ∃ g, fu = g + 1 := ⟨fu - 1, by omega⟩
    have e1 : ¬ (64 : Int32) ≤ nI k := by rw [l_64]; exact nI_ge (by omega) (by omega)
    have un : f11_answers_L43 K n m (nI nd) (nI q) (fu + 1) (nI k) h = if bL (e.2 4) k = true then bp (f11_gets K n m (nI k) h) fun h20 => f11_answers_L43 K n m (nI nd) (nI q) fu (nI (k + 1)) h20 else f11_answers_L43 K n m (nI nd) (nI q) fu (nI (k + 1)) h := by
      simp only [f11_answers_L43, if_neg e1, e5, e6, x_gd, ag.2.2.2.1, mhasL (show k < 64 by omega), x_lt, nI_1]
      by_cases hb : bL (e.2 4) k = true <;> simp [hb]
    rw [un]
    by_cases hb : bL (e.2 4) k = true
    · obtain ⟨h1, s1, s2, s3⟩ := mgets (K := K) (n := n) (ha k hb) (hB k hb) hp v w
      obtain ⟨h2, fu', t1, t2, t3, t4, t6⟩ := ih (k + 1) fu h1 (settle st k p) (by omega) (by omega) (fun k' hk' => by
        show ug (s_B st) k (fSet (s_B st k) (s_n st) p) k' 8 = 1
        by_cases hkk : k' = k
        · subst hkk; rw [ug_e]; unfold fSet; split <;> exact hB k' hb
        · rw [ug_n hkk]; exact hB k' hk') s2 (w.kp s3 (by decide)) (ag.kp s3 (by decide))
      refine ⟨h2, fu', ?_, ?_, t3, t4, (s3.up (by decide)).tr t6⟩
      · rw [if_pos hb, s1, x_bp]; exact t1
      · simp only [clS, if_pos hb]; exact t2
    · obtain ⟨h2, fu', t1, t2, t3, t4, t6⟩ := ih (k + 1) fu h st (by omega) (by omega) hB v w ag
      refine ⟨h2, fu', ?_, ?_, t3, t4, t6⟩
      · rw [if_neg hb]; exact t1
      · simp only [clS, if_neg hb]; exact t2
theorem mansD {nd : Nat} {U Wl : List En} {e : En} {p : Ms} {st : St} (ok : nOk N) (hnd : nd < 6) (he : e.1 0 = nI nd) (hp : p 0 = 1) (p4 : e.1 1 = p 4) (hl : s_L st = U ++ e :: Wl) (hn : 100 ≤ n) (hF : (s_F st).length + cb (e.1 3) 6 0 ≤ 360) (hi : ∀ i, bI (e.1 3) i = true → i < N 0) (ha : ∀ k, bL (e.2 4) k = true → k < 60 ∧ s_B st k 8 = 1) (v : vM m h j N aw st W) (w : mvQ m h p) : ∃ h' X, f11_answers_L2 K n m (nI nd)  (nI (64 * nd + (U.filter (atN nd)).length)) n (nI 0) h = some h' ∧ vM m h' j N aw (q_L (clE N aw nd p st e) (U ++ Wl)) (W ++ X) ∧ s_F (clE N aw nd p st e) = s_F st ++ X ∧ mvQ m h' p ∧ ChM RX m h h' := by
  have b0 := ok.1
  have v4 := v.2.2.2.1
  rw [hl] at v4
  obtain ⟨a1, a2, -⟩ := mvE_at hnd he v4
  obtain ⟨q, hq⟩ : ∃ q, q = 64 * nd + (U.filter (atN nd)).length := ⟨_, rfl⟩
  rw [← hq] at a2 ⊢
  have s1 := clN_sh (N := N) (aw := aw) (nd := nd) (x := e.1 3) (p := p) hi (st := st) ok
  have s2 := clS_sh (x := e.2 4) (p := p) (fun k hk => (ha k hk).1) (st := clN N aw nd (e.1 3) p 6 0 st)
  obtain ⟨h1, X, r1, r2, r3, r4, r5, r6⟩ := mansD_1 (K := K) (n := n) (j := j) (aw := aw) ok (by omega) hnd hp p4 hn (N 0) 0 n h st W (by omega) (by omega) v w a2 (by have := cb_le (e.1 3) (N 0) (6 - N 0) 0; rw [show N 0 + (6 - N 0) = 6 by omega] at this; omega)
  rw [s1] at r2 r3
  have bk := (clN_k (N := N) (aw := aw) (nd := nd) (x := e.1 3) (p := p) 6 0 st)
  obtain ⟨h2, fu', t1, t2, t3, t4, t6⟩ := mansD_2 (K := K) (n := n) (nd := nd) (by omega) hp (fun k hk => (ha k hk).1) 64 0 n h1 _ (by omega) (by omega) (fun k hk => by rw [bk.2.2.2.2.2.2]; exact (ha k hk).2) r2 r4 r5
  rw [s2] at t2
  obtain ⟨w1, w2, w3, w4, w5, w6, w7, w8, w9, w10⟩ := id t2
  have i6 : inb (nI nd) 6 = true := x_in (by omega) (by omega)
  have i7 : (nI nd).toNatClampNeg = nd := x_cl (by omega)
  have e5 : inb (nI q) 384 = true := x_in (by omega) (by omega)
  have e6 : (nI q).toNatClampNeg = q := x_cl (by omega)
  obtain ⟨h3, eh⟩ : ∃ h3, h3 = sL h2 (m + 12) nd (s_D (clS (e.2 4) p 60 0 (clN N aw nd (e.1 3) p 6 0 st)) nd ||| e.2 5) := ⟨_, rfl⟩
  have ch3 : ChM [12] m h2 h3 := by rw [eh]; exact ChM.L (by omega) (by simp) ChM.rf
  have vv3 : vM m h3 j N aw (clE N aw nd p st e) (W ++ X) := by
    refine ⟨w1.kp ch3 (by decide), mnow_kp w2 ch3 (by decide), mdn_kp w3 ch3 (by decide), w4.kp ch3 (by decide) (by decide), w5.kp ch3 (by decide) (by decide), w6.kp ch3 (by decide), fun i hi => ?_, w8.kp ch3 (by decide), w9.kp ch3 (by decide), w10.kp ch3 (by decide)⟩
    show h3.2.1 (m + 12) i = ug (s_D (clS (e.2 4) p 60 0 (clN N aw nd (e.1 3) p 6 0 st))) nd (s_D (clS (e.2 4) p 60 0 (clN N aw nd (e.1 3) p 6 0 st)) nd ||| e.2 5) i
    rw [eh]
    by_cases hi2 : i = nd
    · subst hi2; rw [ug_e, rL_e]
    · rw [ug_n hi2, rL_n (by omega)]; exact w7 i hi
  have lE : s_L (clE N aw nd p st e) = U ++ e :: Wl := clE_k.2.2.1.trans hl
  have vE := vv3.2.2.2.1
  rw [lE] at vE
  have v27 := vE nd hnd
  rw [flt_mid he] at v27
  obtain ⟨h4, d1, d2, d3⟩ := mremoves (K := K) (n := n) hnd hn (by have := v27.2.1; omega) v27.1 (fun i e he => by simpa using v27.2.2 i e he)
  rw [← hq] at d1
  refine ⟨h4, X, ?_, vv3.eL d3.ch (mvE_del hnd he vE d3 d2), ?_, (t3.kp ch3 (by decide)).kp d3.ch (by decide), ((r6.tr t6).tr (ch3.up (by decide))).tr (d3.ch.up (by decide))⟩
  · refine r1.trans (t1.trans ?_)
    simp only [f11_answers_L43, l_64, if_pos (nI_le (Nat.le_refl 64) (by omega)), i6, i7, e5, e6, x_gd, w7 nd hnd, t4.2.2.2.2.1, x_lt]
    rw [← eh, d1, x_bp]
  · show s_F (clS (e.2 4) p 60 0 (clN N aw nd (e.1 3) p 6 0 st)) = _
    rw [clS_F]; exact r3
theorem mansN_1 {q nd : Nat} {e : En} {p : Ms} (ok : nOk N) (hq : q < 384) (hnd : nd < 6) (hp : p 0 = 2)  (hn : 100 ≤ n) : ∀ (d i fu : Nat) (h : Hp) (st : St) (W : List Ms), i + d = N 0 → d < fu → vM m h j N aw st W → mvQ m h p → agR h m q e → (s_F st).length + cb (e.1 3) d i ≤ 360 → ∃ h' X, f11_nackComes_L51 K n m (nI nd) (p 4) (p 5) (nI q) fu (nI i) h = f11_nackComes_L94 K n m (nI nd) (nI q) n (nI 0) h' ∧ vM m h' j N aw (clN N aw nd (e.1 3) p d i st) (W ++ X) ∧ s_F (clN N aw nd (e.1 3) p d i st) = s_F st ++ X ∧ mvQ m h' p ∧ agR h' m q e ∧ ChM RX m h h' := by
  have b0 := ok.1
  have e5 : inb (nI q) 384 = true := x_in (by omega) (by omega)
  have e6 : (nI q).toNatClampNeg = q := x_cl (by omega)
  intro d
  induction d with
  | zero =>
    intro i fu h st W hi hf v w ag hF
    obtain ⟨fu, rfl⟩ : ∃ g, fu = g + 1 := ⟨fu - 1, by omega⟩
    have nn : h.1 m 23 = nI (N 0) := v.1.1.2.2.1
    have e1 : nI (N 0) ≤ nI i := nI_le (by omega) (by omega)
    refine ⟨h, [], ?_, by rw [List.append_nil]; exact v, by rw [List.append_nil]; rfl, w, ag, ChM.rf⟩
    simp only [f11_nackComes_L51, nn, if_pos e1]; rfl
  | succ d ih =>
    intro i fu h st W hi hf v w ag hF
    obtain ⟨fu, rfl⟩ : ∃ g, fu = g + 1 := ⟨fu - 1, by omega⟩
    have nn : h.1 m 23 = nI (N 0) := v.1.1.2.2.1
    have e1 : ¬ nI (N 0) ≤ nI i := nI_ge (by omega) (by omega)
    have un : f11_nackComes_L51 K n m (nI nd) (p 4) (p 5) (nI q) (fu + 1) (nI i) h = if bI (e.1 3) i = true then bp (f11_nackTo K n m (nI nd) (toA (some i) 0) (p 4) (p 5) h) fun h7 => f11_nackComes_L51 K n m (nI nd) (p 4) (p 5) (nI q) fu (nI (i + 1)) h7 else f11_nackComes_L51 K n m (nI nd) (p 4) (p 5) (nI q) fu (nI (i + 1)) h := by
      simp only [f11_nackComes_L51, nn, if_neg e1, e5, e6, x_gd, ag.2.2.1, ag.1, mhas (show i < 32 by omega), x_lt, nI_1, toA]
      by_cases hb : bI (e.1 3) i = true <;> simp [hb]
    rw [un]
    by_cases hb : bI (e.1 3) i = true
    · have hF2 : cb (e.1 3) (d + 1) i = 1 + cb (e.1 3) d (i + 1) := by simp [cb, hb]
      obtain ⟨h1, X1, s1, s2, s3, s4⟩ := mnackTo (K := K) (n := n) (nd := nd) (k := 0) (fr := some i) (nm := p 4) (ws := p 5) ok hnd (fun f hh => ⟨by cases hh; omega, by omega⟩) (fun hh => by cases hh) hp rfl rfl v w
      have sf := send_F (N := N) (aw := aw) (st := st) (a := nd) (b := i) (p := p)
      obtain ⟨h2, X2, t1, t2, t3, t4, t5, t6⟩ := ih (i + 1) fu h1 (send N aw st nd i p) (W ++ X1) (by omega) (by omega) s2 (w.kp s4 (by decide)) (ag.kp s4 (by decide)) (by omega)
      refine ⟨h2, X1 ++ X2, ?_, ?_, ?_, t4, t5, (s4.up (by decide)).tr t6⟩
      · rw [if_pos hb, s1, x_bp]; exact t1
      · simp only [clN, if_pos hb]; rw [← List.append_assoc]; exact t2
      · simp only [clN, if_pos hb]; rw [t3, ← List.append_assoc]
        exact congrArg (· ++ X2) s3
    · have hF2 : cb (e.1 3) (d + 1) i = cb (e.1 3) d (i + 1) := by simp [cb, hb]
      obtain ⟨h2, X2, t1, t2, t3, t4, t5, t6⟩ := ih (i + 1) fu h st W (by omega) (by omega) v w ag (by omega)
      refine ⟨h2, X2, ?_, ?_, ?_, t4, t5, t6⟩
      · rw [if_neg hb]; exact t1
      · simp only [clN, if_neg hb]; exact t2
      · simp only [clN, if_neg hb]; exact t3
theorem mansN_2 {q nd : Nat} {e : En} {p : Ms} (hq : q < 384) (hp : p 0 = 2) (ha : ∀ k, bL (e.2 4) k = true → k < 60) : ∀ (d k fu : Nat) (h : Hp) (st : St), k + d = 64 → d < fu → (∀ k, bL (e.2 4) k = true → s_B st k 8 = 1) → vM m h j N aw st W → mvQ m h p → agR h m q e → ∃ h' fu', f11_nackComes_L94 K n m (nI nd) (nI q) fu (nI k) h = f11_nackComes_L94 K n m (nI nd) (nI q) (fu' + 1) (nI 64) h' ∧ vM m h' j N aw (clS (e.2 4) p d k st) W ∧ mvQ m h' p ∧ agR h' m q e ∧ ChM RX m h h' := by
  have e5 : inb (nI q) 384 = true := x_in (by omega) (by omega)
  have e6 : (nI q).toNatClampNeg = q := x_cl (by omega)
  intro d
  induction d with
  | zero =>
    intro k fu h st hk hf hB v w ag
    obtain ⟨fu, rfl⟩ : ∃ g, fu = g + 1 := ⟨fu - 1, by omega⟩
    refine ⟨h, fu, ?_, v, w, ag, ChM.rf⟩
    rw [show k = 64 by omega]
  | succ d ih =>
    intro k fu h st hk hf hB v w ag
    obtain ⟨fu, rfl⟩ : ∃ g, fu = g + 1 := ⟨fu - 1, by omega⟩
    have e1 : ¬ (64 : Int32) ≤ nI k := by rw [l_64]; exact nI_ge (by omega) (by omega)
    have un : f11_nackComes_L94 K n m (nI nd) (nI q) (fu + 1) (nI k) h = if bL (e.2 4) k = true then bp (f11_refused K n m (nI k) h) fun h20 => f11_nackComes_L94 K n m (nI nd) (nI q) fu (nI (k + 1)) h20 else f11_nackComes_L94 K n m (nI nd) (nI q) fu (nI (k + 1)) h := by
      simp only [f11_nackComes_L94, if_neg e1, e5, e6, x_gd, ag.2.2.2.1, mhasL (show k < 64 by omega), x_lt, nI_1]
      by_cases hb : bL (e.2 4) k = true <;> simp [hb]
    rw [un]
    by_cases hb : bL (e.2 4) k = true
    · obtain ⟨h1, s1, s2, s3⟩ := mrefused (K := K) (n := n) (ha k hb) (hB k hb) hp v w
      obtain ⟨h2, fu', t1, t2, t3, t4, t6⟩ := ih (k + 1) fu h1 (settle st k p) (by omega) (by omega) (fun k' hk' => by
        show ug (s_B st) k (fSet (s_B st k) (s_n st) p) k' 8 = 1
        by_cases hkk : k' = k
        · subst hkk; rw [ug_e]; unfold fSet; split <;> exact hB k' hb
        · rw [ug_n hkk]; exact hB k' hk') s2 (w.kp s3 (by decide)) (ag.kp s3 (by decide))
      refine ⟨h2, fu', ?_, ?_, t3, t4, (s3.up (by decide)).tr t6⟩
      · rw [if_pos hb, s1, x_bp]; exact t1
      · simp only [clS, if_pos hb]; exact t2
    · obtain ⟨h2, fu', t1, t2, t3, t4, t6⟩ := ih (k + 1) fu h st (by omega) (by omega) hB v w ag
      refine ⟨h2, fu', ?_, ?_, t3, t4, t6⟩
      · rw [if_neg hb]; exact t1
      · simp only [clS, if_neg hb]; exact t2
theorem mansN {nd : Nat} {U Wl : List En} {e : En} {p : Ms} {st : St} (ok : nOk N) (hnd : nd < 6) (he : e.1 0 = nI nd) (hp : p 0 = 2)  (hl : s_L st = U ++ e :: Wl) (hn : 100 ≤ n) (hF : (s_F st).length + cb (e.1 3) 6 0 ≤ 360) (hi : ∀ i, bI (e.1 3) i = true → i < N 0) (ha : ∀ k, bL (e.2 4) k = true → k < 60 ∧ s_B st k 8 = 1) (v : vM m h j N aw st W) (w : mvQ m h p) : ∃ h' X, f11_nackComes_L51 K n m (nI nd) (p 4) (p 5) (nI (64 * nd + (U.filter (atN nd)).length)) n (nI 0) h = some h' ∧ vM m h' j N aw (q_L (clE N aw nd p st e) (U ++ Wl)) (W ++ X) ∧ s_F (clE N aw nd p st e) = s_F st ++ X ∧ mvQ m h' p ∧ ChM RX m h h' := by
  have b0 := ok.1
  have v4 := v.2.2.2.1
  rw [hl] at v4
  obtain ⟨a1, a2, -⟩ := mvE_at hnd he v4
  obtain ⟨q, hq⟩ : ∃ q, q = 64 * nd + (U.filter (atN nd)).length := ⟨_, rfl⟩
  rw [← hq] at a2 ⊢
  have s1 := clN_sh (N := N) (aw := aw) (nd := nd) (x := e.1 3) (p := p) hi (st := st) ok
  have s2 := clS_sh (x := e.2 4) (p := p) (fun k hk => (ha k hk).1) (st := clN N aw nd (e.1 3) p 6 0 st)
  obtain ⟨h1, X, r1, r2, r3, r4, r5, r6⟩ := mansN_1 (K := K) (n := n) (j := j) (aw := aw) ok (by omega) hnd hp  hn (N 0) 0 n h st W (by omega) (by omega) v w a2 (by have := cb_le (e.1 3) (N 0) (6 - N 0) 0; rw [show N 0 + (6 - N 0) = 6 by omega] at this; omega)
  rw [s1] at r2 r3
  have bk := (clN_k (N := N) (aw := aw) (nd := nd) (x := e.1 3) (p := p) 6 0 st)
  obtain ⟨h2, fu', t1, t2, t3, t4, t6⟩ := mansN_2 (K := K) (n := n) (nd := nd) (by omega) hp (fun k hk => (ha k hk).1) 64 0 n h1 _ (by omega) (by omega) (fun k hk => by rw [bk.2.2.2.2.2.2]; exact (ha k hk).2) r2 r4 r5
  rw [s2] at t2
  obtain ⟨w1, w2, w3, w4, w5, w6, w7, w8, w9, w10⟩ := id t2
  have i6 : inb (nI nd) 6 = true := x_in (by omega) (by omega)
  have i7 : (nI nd).toNatClampNeg = nd := x_cl (by omega)
  have e5 : inb (nI q) 384 = true := x_in (by omega) (by omega)
  have e6 : (nI q).toNatClampNeg = q := x_cl (by omega)
  obtain ⟨h3, eh⟩ : ∃ h3, h3 = sL h2 (m + 12) nd (s_D (clS (e.2 4) p 60 0 (clN N aw nd (e.1 3) p 6 0 st)) nd ||| e.2 5) := ⟨_, rfl⟩
  have ch3 : ChM [12] m h2 h3 := by rw [eh]; exact ChM.L (by omega) (by simp) ChM.rf
  have vv3 : vM m h3 j N aw (clE N aw nd p st e) (W ++ X) := by
    refine ⟨w1.kp ch3 (by decide), mnow_kp w2 ch3 (by decide), mdn_kp w3 ch3 (by decide), w4.kp ch3 (by decide) (by decide), w5.kp ch3 (by decide) (by decide), w6.kp ch3 (by decide), fun i hi => ?_, w8.kp ch3 (by decide), w9.kp ch3 (by decide), w10.kp ch3 (by decide)⟩
    show h3.2.1 (m + 12) i = ug (s_D (clS (e.2 4) p 60 0 (clN N aw nd (e.1 3) p 6 0 st))) nd (s_D (clS (e.2 4) p 60 0 (clN N aw nd (e.1 3) p 6 0 st)) nd ||| e.2 5) i
    rw [eh]
    by_cases hi2 : i = nd
    · subst hi2; rw [ug_e, rL_e]
    · rw [ug_n hi2, rL_n (by omega)]; exact w7 i hi
  have lE : s_L (clE N aw nd p st e) = U ++ e :: Wl := clE_k.2.2.1.trans hl
  have vE := vv3.2.2.2.1
  rw [lE] at vE
  have v27 := vE nd hnd
  rw [flt_mid he] at v27
  obtain ⟨h4, d1, d2, d3⟩ := mremoves (K := K) (n := n) hnd hn (by have := v27.2.1; omega) v27.1 (fun i e he => by simpa using v27.2.2 i e he)
  rw [← hq] at d1
  refine ⟨h4, X, ?_, vv3.eL d3.ch (mvE_del hnd he vE d3 d2), ?_, (t3.kp ch3 (by decide)).kp d3.ch (by decide), ((r6.tr t6).tr (ch3.up (by decide))).tr (d3.ch.up (by decide))⟩
  · refine r1.trans (t1.trans ?_)
    simp only [f11_nackComes_L94, l_64, if_pos (nI_le (Nat.le_refl 64) (by omega)), i6, i7, e5, e6, x_gd, w7 nd hnd, t4.2.2.2.2.1, x_lt]
    rw [← eh, d1, x_bp]
  · show s_F (clS (e.2 4) p 60 0 (clN N aw nd (e.1 3) p 6 0 st)) = _
    rw [clS_F]; exact r3
end MClose
