/-! the reference takes data and nacks -/
section MTake
variable {K : Ly} {n m j : Nat} {h : Hp} {N : Nat → Nat} {aw : Int32} {W : List Ms}
def eM (N : Nat → Nat) (B : Nat → Nat → Int32) (e : En) : Prop := (∀ i, bI (e.1 3) i = true → i < N 0) ∧ ∀ k, bL (e.2 4) k = true → k < 60 ∧ B k 8 = 1
theorem settle_8 {st : St} {k k' : Nat} {p : Ms} : s_B (settle st k p) k' 8 = s_B st k' 8 := by
  show ug (s_B st) k (fSet (s_B st k) (s_n st) p) k' 8 = _
  by_cases hkk : k' = k
  · subst hkk; rw [ug_e]; unfold fSet; split <;> rfl
  · rw [ug_n hkk]
theorem clS_8 {x : Int64} {p : Ms} {k' : Nat} : ∀ (d k : Nat) (st : St), s_B (clS x p d k st) k' 8 = s_B st k' 8 := by
  intro d
  induction d with
  | zero => exact fun k st => rfl
  | succ d ih =>
    intro k st
    simp only [clS]
    rw [ih]
    split
    · exact settle_8
    · rfl
theorem clE_8 {nd k : Nat} {p : Ms} {st : St} {e : En} : s_B (clE N aw nd p st e) k 8 = s_B st k 8 := by
  show s_B (clS (e.2 4) p 60 0 (clN N aw nd (e.1 3) p 6 0 st)) k 8 = _
  rw [clS_8, (clN_k (N := N) (aw := aw) 6 0 st).2.2.2.2.2.2]
theorem mdata_L {nd : Nat} {p : Ms} {fr : Bool} (ok : nOk N) (hnd : nd < 6) (hp : p 0 = 1) (hn : 400 ≤ n) : ∀ (c fu : Nat) (h : Hp) (st : St) (W : List Ms), ((s_L st).filter (isV nd (p 4) fr)).length = c → c < fu → (∀ e ∈ s_L st, eM N (s_B st) e) → (s_F st).length + cbL ((s_L st).filter (isV nd (p 4) fr)) ≤ 360 → vM m h j N aw st W → mvQ m h p → ∃ h' X, f11_dataCome_L103 K n m (nI nd) (p 4) (if fr = true then 1 else 0) fu (ixM nd 0 ((fs (isV nd (p 4) fr) (s_L st)).map (fun r => (r.1.filter (atN nd), r.2.1, r.2.2.filter (atN nd))))) h = some h' ∧ vM m h' j N aw (q_L (((s_L st).filter (isV nd (p 4) fr)).foldl (clE N aw nd p) st) ((s_L st).filter (fun e => !(isV nd (p 4) fr e)))) (W ++ X) ∧ s_F (((s_L st).filter (isV nd (p 4) fr)).foldl (clE N aw nd p) st) = s_F st ++ X ∧ ChM RX m h h' := by
  intro c
  induction c with
  | zero =>
    intro fu h st W hc hf he hF v w
    obtain ⟨fu, rfl⟩ : ∃ g, fu = g + 1 := ⟨fu - 1, by omega⟩
    have f0 : (s_L st).filter (isV nd (p 4) fr) = [] := List.eq_nil_of_length_eq_zero hc
    have nv : ∀ e ∈ s_L st, isV nd (p 4) fr e = false := fun e he => by
      have := List.filter_eq_nil_iff.mp f0 e he
      simpa using this
    have f1 : (s_L st).filter (fun e => !(isV nd (p 4) fr e)) = s_L st := List.filter_eq_self.mpr (fun e he => by simp [nv e he])
    refine ⟨h, [], ?_, ?_, by rw [f0, List.append_nil]; rfl, ChM.rf⟩
    · rw [fs_none_of nv]
      simp only [Option.map_none, ixM, f11_dataCome_L103, if_true]
    · rw [f0, f1, List.append_nil]; exact v
  | succ c ih =>
    intro fu h st W hc hf he hF v w
    obtain ⟨fu, rfl⟩ : ∃ g, fu = g + 1 := ⟨fu - 1, by omega⟩
    cases hq : fs (isV nd (p 4) fr) (s_L st) with
    | none =>
      exfalso
      have : (s_L st).filter (isV nd (p 4) fr) = [] := List.filter_eq_nil_iff.mpr (fun e he => by simp [fs_none hq e he])
      rw [this] at hc; simp at hc
    | some r =>
      obtain ⟨u, e, w'⟩ := r
      obtain ⟨l1, l2, l3⟩ := fs_some hq
      have e3 : e.1 0 = nI nd ∧ e.1 1 = p 4 := by simp [isV] at l2; exact ⟨l2.1, l2.2.1⟩
      have fu1 : u.filter (isV nd (p 4) fr) = [] := List.filter_eq_nil_iff.mpr (fun a ha => by simp [l3 a ha])
      have fu2 : u.filter (fun e => !(isV nd (p 4) fr e)) = u := List.filter_eq_self.mpr (fun a ha => by simp [l3 a ha])
      have f1 : (s_L st).filter (isV nd (p 4) fr) = e :: (u ++ w').filter (isV nd (p 4) fr) := by
        rw [l1, List.filter_append, List.filter_append, fu1, List.filter_cons_of_pos l2]; rfl
      have f2 : (s_L st).filter (fun e => !(isV nd (p 4) fr e)) = (u ++ w').filter (fun e => !(isV nd (p 4) fr e)) := by
        rw [l1, List.filter_append, List.filter_append, List.filter_cons_of_neg (by simp [l2])]
      rw [f1] at hF hc
      have hcb : cbL (e :: (u ++ w').filter (isV nd (p 4) fr)) = cb (e.1 3) 6 0 + cbL ((u ++ w').filter (isV nd (p 4) fr)) := by simp [cbL]
      have eme := he e (by rw [l1]; simp)
      obtain ⟨h1, X1, a1, a2, a3, a4, a5⟩ := mansD (K := K) (n := n) ok hnd e3.1 hp e3.2 l1 (by omega) (by omega) eme.1 eme.2 v w
      have v4 := v.2.2.2.1
      rw [l1] at v4
      have le := (mvE_at hnd e3.1 v4).1
      have cF := clE_F (N := N) (aw := aw) (nd := nd) (p := p) (st := st) (e := e)
      obtain ⟨h2, X2, i1, i2, i3, i4⟩ := ih fu h1 (q_L (clE N aw nd p st e) (u ++ w')) (W ++ X1) (by show ((u ++ w').filter _).length = c; simpa using hc) (by omega) (fun a ha => by
          have ha : a ∈ u ++ w' := ha
          have := he a (by rw [l1]; rcases List.mem_append.mp ha with ha | ha <;> simp [ha])
          refine ⟨this.1, fun k hk => ⟨(this.2 k hk).1, ?_⟩⟩
          show s_B (clE N aw nd p st e) k 8 = 1
          rw [clE_8]; exact (this.2 k hk).2) (by show (s_F (clE N aw nd p st e)).length + cbL ((u ++ w').filter _) ≤ 360; omega) a2 a4
      refine ⟨h2, X1 ++ X2, ?_, ?_, ?_, a5.tr i4⟩
      · have e5 : ¬ nI (64 * nd + (u.filter (atN nd)).length) = -1 := by rw [x_nm1 (by omega)]; exact not_false
        have ff := mfirstFor (K := K) (n := n) (nm := p 4) (fr := fr) hnd (by omega) a2.2.2.2.1
        have a1 : f11_answers K n m (nI nd) (nI (64 * nd + (u.filter (atN nd)).length)) h = some h1 := a1
        simp only [Option.map_some, ixM, Nat.zero_add, f11_dataCome_L103, if_neg e5, a1, x_bp]
        rw [ff, x_bp]
        exact i1
      · rw [f1, f2, List.foldl_cons, ← List.append_assoc]
        have := i2
        rw [show s_L (q_L (clE N aw nd p st e) (u ++ w')) = u ++ w' from rfl, clE_fL] at this
        exact this
      · rw [f1, List.foldl_cons, ← List.append_assoc, ← a3]
        have := i3
        rw [show s_L (q_L (clE N aw nd p st e) (u ++ w')) = u ++ w' from rfl, clE_fL] at this
        exact this
theorem mdata {nd f : Nat} {p : Ms} {st : St} (ok : nOk N) (hnd : nd < 6) (hf : f < 6) (hp : p 0 = 1) (hn : 400 ≤ n) (hS : (s_S st nd).length ≤ N (5 + nd)) (he : ∀ e ∈ s_L st, eM N (s_B st) e) (hF : (s_F st).length + cbL (s_L st) ≤ 360) (v : vM m h j N aw st W) (w : mvQ m h p) : ∃ h' X, f11_dataCome K n m (nI nd) (nI f) (p 4) h = some h' ∧ vM m h' j N aw (data N aw st nd f p) (W ++ X) ∧ s_F (data N aw st nd f p) = s_F st ++ X ∧ ChM RX m h h' := by
  obtain ⟨v1, v2, v3, v4, v5, v6, v7, v8, v9, v10⟩ := id v
  obtain ⟨z1, z2, z3, z4⟩ := w.1 hp
  have fr : (if h.1 m 71 < h.1 m 27 then (0 : Int32) else 1) = if frs p (s_n st) = true then 1 else 0 := by
    rw [z1, v2]
    unfold frs
    by_cases hh : p 7 < nI (s_n st) <;> simp [hh]
  have rm := ok.2.2.2.2.2.1 nd hnd
  unfold f11_dataCome
  rw [fr]
  unfold f11_dataCome_J16 data
  rw [mfirstFor hnd (by omega) v4, x_bp]
  cases hq : fs (isV nd (p 4) (frs p (s_n st))) (s_L st) with
  | none =>
    obtain ⟨q1, q2⟩ := mtick (i := 4) (by omega) v
    refine ⟨sI h m 69 (h.1 m 69 + 1), [], by simp only [Option.map_none, ixM, if_true, x_lt], by rw [List.append_nil]; exact q1, by rw [List.append_nil]; rfl, q2.up (by decide)⟩
  | some r =>
    obtain ⟨u, e, w'⟩ := r
    obtain ⟨l1, l2, l3⟩ := fs_some hq
    have e3 : e.1 0 = nI nd ∧ e.1 1 = p 4 := by simp [isV] at l2; exact ⟨l2.1, l2.2.1⟩
    have v4' := v4
    rw [l1] at v4'
    obtain ⟨a1, a2, -⟩ := mvE_at hnd e3.1 v4'
    have e5 : ¬ nI (64 * nd + (u.filter (atN nd)).length) = -1 := by rw [x_nm1 (by omega)]; exact not_false
    have e8 : inb (nI (64 * nd + (u.filter (atN nd)).length)) 384 = true := x_in (by omega) (by omega)
    have e9 : (nI (64 * nd + (u.filter (atN nd)).length)).toNatClampNeg = 64 * nd + (u.filter (atN nd)).length := x_cl (by omega)
    have cl : ((s_L st).filter (isV nd (p 4) (frs p (s_n st)))).length ≤ 63 := by
      have h1 : (s_L st).filter (isV nd (p 4) (frs p (s_n st))) = ((s_L st).filter (atN nd)).filter (isV nd (p 4) (frs p (s_n st))) := by
        rw [List.filter_filter]
        refine List.filter_congr (fun a _ => ?_)
        cases hv : isV nd (p 4) (frs p (s_n st)) a with
        | false => rfl
        | true => simp [isV] at hv; simp [atN, hv.1]
      rw [h1]
      exact Nat.le_trans (List.length_filter_le _ _) (v4 nd hnd).2.1
    have cbf : cbL ((s_L st).filter (isV nd (p 4) (frs p (s_n st)))) ≤ cbL (s_L st) := by
      have gen : ∀ (pr : En → Bool) (l : List En), cbL (l.filter pr) ≤ cbL l := by
        intro pr l
        induction l with
        | nil => exact Nat.le_refl _
        | cons a l ih =>
          by_cases ha : pr a = true
          · rw [List.filter_cons_of_pos ha]; simp only [cbL, List.map_cons, List.sum_cons] at ih ⊢; omega
          · rw [List.filter_cons_of_neg ha]; simp only [cbL, List.map_cons, List.sum_cons] at ih ⊢; omega
      exact gen _ _
    -- from the store on
    have tail : ∀ (h1 : Hp) (st1 : St), s_L st1 = s_L st → s_S st1 = s_S st → s_F st1 = s_F st → s_B st1 = s_B st → vM m h1 j N aw st1 W → mvQ m h1 p → ∃ h' X, f11_dataCome_J79 K n m (nI nd) (p 4) (if frs p (s_n st) = true then 1 else 0) (nI (64 * nd + (u.filter (atN nd)).length)) h1 = some h' ∧ vM m h' j N aw (q_L (((s_L st).filter (isV nd (p 4) (frs p (s_n st)))).foldl (clE N aw nd p) (q_S st1 (ug (s_S st) nd (kpS (s_S st nd) (p 4, p 7, p 8) (N (5 + nd)))))) ((s_L st).filter (fun e => !(isV nd (p 4) (frs p (s_n st)) e)))) (W ++ X) ∧ s_F (((s_L st).filter (isV nd (p 4) (frs p (s_n st)))).foldl (clE N aw nd p) (q_S st1 (ug (s_S st) nd (kpS (s_S st nd) (p 4, p 7, p 8) (N (5 + nd)))))) = s_F st ++ X ∧ ChM RX m h1 h' := by
      intro h1 st1 sL sS sF sB vv ww
      have on := mofNet (K := K) (n := n) vv.1.1 (i := 5 + nd) (by omega)
      have e9 : (5 : Int32) + nI nd = nI (5 + nd) := by rw [l_5, nI_add]
      have go : ∀ (h2 : Hp), vM m h2 j N aw (q_S st1 (ug (s_S st) nd (kpS (s_S st nd) (p 4, p 7, p 8) (N (5 + nd))))) W → mvQ m h2 p → ∃ h' X, f11_dataCome_L103 K n m (nI nd) (p 4) (if frs p (s_n st) = true then 1 else 0) n (nI (64 * nd + (u.filter (atN nd)).length)) h2 = some h' ∧ vM m h' j N aw (q_L (((s_L st).filter (isV nd (p 4) (frs p (s_n st)))).foldl (clE N aw nd p) (q_S st1 (ug (s_S st) nd (kpS (s_S st nd) (p 4, p 7, p 8) (N (5 + nd)))))) ((s_L st).filter (fun e => !(isV nd (p 4) (frs p (s_n st)) e)))) (W ++ X) ∧ s_F (((s_L st).filter (isV nd (p 4) (frs p (s_n st)))).foldl (clE N aw nd p) (q_S st1 (ug (s_S st) nd (kpS (s_S st nd) (p 4, p 7, p 8) (N (5 + nd)))))) = s_F st ++ X ∧ ChM RX m h2 h' := by
        intro h2 vv2 ww2
        have sL2 : s_L (q_S st1 (ug (s_S st) nd (kpS (s_S st nd) (p 4, p 7, p 8) (N (5 + nd))))) = s_L st := sL
        obtain ⟨h', X, d1, d2, d3, d4⟩ := mdata_L (K := K) (n := n) (fr := frs p (s_n st)) ok hnd hp hn _ n h2 _ W rfl (by rw [sL2]; omega) (by
          rw [sL2]; show ∀ e ∈ s_L st, eM N (s_B st1) e; rw [sB]; exact he) (by rw [sL2]; show (s_F st1).length + _ ≤ _; rw [sF]; omega) vv2 ww2
        rw [sL2] at d1 d2 d3
        rw [hq] at d1
        simp only [Option.map_some, ixM, Nat.zero_add] at d1
        refine ⟨h', X, d1, d2, ?_, d4⟩
        rw [d3]
        show s_F st1 ++ X = _
        rw [sF]
      unfold f11_dataCome_J79
      rw [e9, on, x_bp]
      by_cases hr : N (5 + nd) = 0
      · have e0 : nI (N (5 + nd)) ≤ (0 : Int32) := by rw [hr]; decide
        have s0 : s_S st nd = [] := List.eq_nil_of_length_eq_zero (by omega)
        have kk : ug (s_S st) nd (kpS (s_S st nd) (p 4, p 7, p 8) (N (5 + nd))) = s_S st := by
          rw [s0, hr, kpS_0]
          funext i
          by_cases hi : i = nd
          · subst hi; rw [ug_e, s0]
          · rw [ug_n hi]
        obtain ⟨h', X, g1, g2, g3, g4⟩ := go h1 (by rw [kk, ← sS]; exact vv) ww
        exact ⟨h', X, by rw [if_pos e0]; exact g1, g2, g3, g4⟩
      · have e0 : ¬ nI (N (5 + nd)) ≤ (0 : Int32) := nI_nle (by omega) (by omega)
        obtain ⟨y1, y2, -, -⟩ := ww.1 hp
        have s8 := vv.2.2.2.2.2.2.2.1 nd hnd
        rw [sS] at s8
        obtain ⟨h2, p1, p2, p3⟩ := mputs (K := K) (n := n) (t := (p 4, p 7, p 8)) ok vv.1.1 hnd (by omega) (by omega) s8
        rw [ptL_kpS (by omega) hS] at p2
        have vv2 := vv.sS p3 p2
        rw [sS] at vv2
        obtain ⟨h', X, g1, g2, g3, g4⟩ := go h2 vv2 (ww.kp p3.ch (by decide))
        refine ⟨h', X, ?_, g2, g3, (p3.ch.up (by decide)).tr g4⟩
        rw [if_neg e0, y1, y2]
        have p1 : f11_putsLast K n m (nI nd) (p 4) (p 7) (p 8) h1 = some h2 := p1
        rw [p1, x_bp]; exact g1
    simp only [Option.map_some, ixM, Nat.zero_add, if_neg e5, e8, e9, x_gd, a2.2.2.2.2.2.2.1]
    by_cases hx : e.1 7 = nI f
    · have f4 : (6 : Int32) * nI nd + nI f = nI (6 * nd + f) := by rw [l_6, pk_mul, nI_add]
      have f5 : inb (nI (6 * nd + f)) 36 = true := x_in (by omega) (by omega)
      have f6 : (nI (6 * nd + f)).toNatClampNeg = 6 * nd + f := x_cl (by omega)
      obtain ⟨h1, eh⟩ : ∃ h1, h1 = sI h (m + 13) (6 * nd + f) (nI (s_n st) - e.1 9) := ⟨_, rfl⟩
      have ch1 : ChM [13] m h h1 := by rw [eh]; exact ChM.A (by omega) (by simp) ChM.rf
      have vv1 : vM m h1 j N aw (q_M st (ug (s_M st) (6 * nd + f) (nI (s_n st) - e.1 9))) W := by
        refine ⟨v1.kp ch1 (by decide), mnow_kp v2 ch1 (by decide), mdn_kp v3 ch1 (by decide), v4.kp ch1 (by decide) (by decide), v5.kp ch1 (by decide) (by decide), fun i hi => ?_, v7.kp ch1 (by decide), v8.kp ch1 (by decide), v9.kp ch1 (by decide), v10.kp ch1 (by decide)⟩
        show h1.1 (m + 13) i = ug (s_M st) (6 * nd + f) (nI (s_n st) - e.1 9) i
        rw [eh]
        by_cases hi2 : i = 6 * nd + f
        · subst hi2; rw [ug_e, rI_e]
        · rw [ug_n hi2, rI_n (by omega)]; exact v6 i hi
      obtain ⟨h', X, t1, t2, t3, t4⟩ := tail h1 (q_M st (ug (s_M st) (6 * nd + f) (nI (s_n st) - e.1 9))) rfl rfl rfl rfl vv1 (w.kp ch1 (by decide))
      refine ⟨h', X, ?_, ?_, ?_, (ch1.up (by decide)).tr t4⟩
      · rw [if_pos hx]
        simp only [f4, f5, f6, x_gd, v2, a2.2.2.2.2.2.2.2.2.1, x_lt]
        rw [← eh]; exact t1
      · simp only [if_pos hx]; exact t2
      · simp only [if_pos hx]; exact t3
    · obtain ⟨h', X, t1, t2, t3, t4⟩ := tail h st rfl rfl rfl rfl v w
      refine ⟨h', X, ?_, ?_, ?_, t4⟩
      · rw [if_neg hx]; exact t1
      · simp only [if_neg hx]; exact t2
      · simp only [if_neg hx]; exact t3
theorem mnack {nd f nm : Nat} {p : Ms} {st : St} (ok : nOk N) (hM : mOk (s_M st)) (hnd : nd < 6) (hf : f < 6) (hnm : nm < 531441) (hp : p 0 = 2) (p4 : p 4 = nI nm) (hn : 400 ≤ n) (he : ∀ e ∈ s_L st, eM N (s_B st) e) (hF : (s_F st).length + cbL (s_L st) ≤ 360) (hF1 : (s_F st).length < 360) (v : vM m h j N aw st W) (w : mvQ m h p) : ∃ h' X, f11_nackComes K n m (nI nd) (nI f) (p 4) (p 5) h = some h' ∧ vM m h' j N aw (nack N aw st nd f nm p) (W ++ X) ∧ s_F (nack N aw st nd f nm p) = s_F st ++ X ∧ ChM RX m h h' := by
  obtain ⟨v1, v2, v3, v4, v5, v6, v7, v8, v9, v10⟩ := id v
  unfold f11_nackComes nack
  rw [mentry hnd (by omega) v4, x_bp]
  cases hq : fs (isE nd (p 4) (p 5)) (s_L st) with
  | none => exact ⟨h, [], by simp only [Option.map_none, ixM, if_true], by rw [List.append_nil]; exact v, by rw [List.append_nil], ChM.rf⟩
  | some r =>
    obtain ⟨u, e, w'⟩ := r
    obtain ⟨l1, l2, l3⟩ := fs_some hq
    have l2 : e.1 0 = nI nd ∧ e.1 1 = p 4 ∧ e.1 2 = p 5 := by simpa [isE] using l2
    have v4' := v4
    rw [l1] at v4'
    obtain ⟨a1, a2, a3⟩ := mvE_at hnd l2.1 v4'
    have e5 : ¬ nI (64 * nd + (u.filter (atN nd)).length) = -1 := by rw [x_nm1 (by omega)]; exact not_false
    have e8 : inb (nI (64 * nd + (u.filter (atN nd)).length)) 384 = true := x_in (by omega) (by omega)
    have e9 : (nI (64 * nd + (u.filter (atN nd)).length)).toNatClampNeg = 64 * nd + (u.filter (atN nd)).length := x_cl (by omega)
    simp only [Option.map_some, ixM, Nat.zero_add, if_neg e5, e8, e9, x_gd, a2.2.2.2.2.2.2.1]
    by_cases hx : e.1 7 = nI f
    · rw [if_pos hx, if_pos hx]
      have go := mgoesOn (K := K) (n := n) ok hM (by omega) v a2 (l2.2.1.trans p4) hnd hnm hF1 (by omega) (L6 := fun t => u ++ eOut e t (s_n st) :: w') (fun t h' q ag => a3 h' _ (by show (eOut e t (s_n st)).1 0 = _; exact l2.1) q ag)
      cases hb : bw N aw (s_d st) (s_M st) nd nm (e.1 3 ||| e.1 8) with
      | some t =>
        rw [hb] at go
        obtain ⟨h1, X, b1, b2, b3, b4⟩ := go
        rw [l2.2.1, l2.2.2] at b2 b3
        refine ⟨h1, X, ?_, b2, b3, b4⟩
        rw [b1, x_bd, if_neg (by decide)]
      | none =>
        rw [hb] at go
        have go : f11_goesOn K n m (nI nd) (nI (64 * nd + (u.filter (atN nd)).length)) h = some (0, h) := go
        obtain ⟨z1, z2, z3⟩ := w.2 hp
        obtain ⟨h1, eh⟩ : ∃ h1, h1 = sI h m 71 (p 7 + 1) := ⟨_, rfl⟩
        have ch : ChM [171] m h h1 := by rw [eh]; exact ChM.F (by simp) ChM.rf
        have w1 : mvQ m h1 (fun i => if i = 7 then p 7 + 1 else p i) := by
          refine ⟨fun hh => ?_, fun _ => ⟨?_, ?_, ?_⟩⟩
          · have hh : p 0 = 1 := hh
            rw [hp] at hh; exact absurd hh (by decide)
          · rw [eh, rI_e]; rfl
          · rw [eh, rI_n (by omega)]; exact z2
          · rw [eh, rI_n (by omega)]; exact z3
        have eme := he e (by rw [l1]; simp)
        have hcb : cb (e.1 3) 6 0 ≤ cbL (s_L st) := by rw [l1]; simp [cbL]; omega
        obtain ⟨h2, X, d1, d2, d3, -, d4⟩ := mansN (K := K) (n := n) (p := fun i => if i = 7 then p 7 + 1 else p i) ok hnd l2.1 hp l1 (by omega) (by omega) eme.1 eme.2 (v.kp ch (by decide)) w1
        refine ⟨h2, X, ?_, d2, d3, (ch.up (by decide)).tr d4⟩
        rw [go, x_bd, if_pos rfl, z1, x_lt, ← eh]
        exact d1
    · rw [if_neg hx, if_neg hx]
      exact ⟨h, [], rfl, by rw [List.append_nil]; exact v, by rw [List.append_nil], ChM.rf⟩
end MTake
