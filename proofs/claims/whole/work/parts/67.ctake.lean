/-! the class ends entries, takes data and nacks -/
section CTake
variable {K : Ly} {n c o : Nat} {h : Hp} {N : Nat → Nat} {aw : Int32}
/-- what is so of every entry -/
def eOk (N : Nat → Nat) (e : En) : Prop := (∃ nd, nd < N 0 ∧ e.1 0 = nI nd) ∧ (∃ t, t < N 0 ∧ e.1 7 = nI t)
def enB (x : Int64) (now d : Nat) (B : Nat → Nat → Int32) : Nat → Nat → Int32 := fun k => if k < d ∧ bL x k = true then endB (B k) now else B k
theorem cend1 {A : Nat} {x1 x2 : Int32} {e : En} {r7 : Int32 → Int32 → Hp → Option Hp} (kc : KC K c) (hA : ∀ k, rgC c A k = 1) : ∀ (d k fu : Nat) (h : Hp) (st : St) (B0 : Nat → Nat → Int32), k + d = 60 → d < fu → vC K c h o N aw (q_B st (enB (e.2 4) (s_n st) k B0)) → agE (rwo h A) e → ∃ h' fu', f10_endEntries_L70 K n c x1 x2 A r7 fu (nI k) h = f10_endEntries_L70 K n c x1 x2 A r7 (fu' + 1) (nI 60) h' ∧ vC K c h' o N aw (q_B st (enB (e.2 4) (s_n st) 60 B0)) ∧ Ch [8] c h h' := by
  intro d
  induction d with
  | zero =>
    intro k fu h st B0 hk hf v ag
    obtain ⟨fu, rfl⟩ : ∃ g, fu = g + 1 := ⟨fu - 1, by omega⟩
    rw [show k = 60 by omega] at v ⊢
    exact ⟨h, fu, rfl, v, Ch.rf⟩
  | succ d ih =>
    intro k fu h st B0 hk hf v ag
    obtain ⟨fu, rfl⟩ : ∃ g, fu = g + 1 := ⟨fu - 1, by omega⟩
    have e1 : ¬ (60 : Int32) ≤ nI k := by rw [l_60]; exact nI_ge (by omega) (by omega)
    have g4 : h.2.1 A 4 = e.2 4 := ag.2.1
    have e2 : inb (nI k) 60 = true := x_in (by omega) (by omega)
    have e3 : (nI k).toNatClampNeg = k := x_cl (by omega)
    obtain ⟨v1, v2, v3, v4, v5, v6, v7, v8, v9, v10⟩ := id v
    obtain ⟨r1, r2⟩ := v9 k (by omega)
    by_cases hb : bL (e.2 4) k = true
    · obtain ⟨h1, eh⟩ : ∃ h1, h1 = sI (sI h (c + 767 + k) 0 3) (c + 767 + k) 2 (nI (s_n st)) := ⟨_, rfl⟩
      have ch1 : Ch [8] c h h1 := by rw [eh]; exact Ch.I 8 (rg_f (by omega) (by omega)) (by simp) (Ch.I 8 (rg_f (by omega) (by omega)) (by simp) Ch.rf)
      have vv : vC K c h1 o N aw (q_B st (enB (e.2 4) (s_n st) (k + 1) B0)) := by
        refine ⟨v1.kp ch1 (by simp) (by simp), now_kp v2 ch1 (by simp), dn_kp v3 ch1 (by simp), v4.kp ch1 (by simp), v5.kp ch1 (by simp), v6.kp ch1 (by simp), v7.kp ch1 (by simp), v8.kp ch1 (by simp), fun j hj => ⟨by rw [eh]; exact (v9 j hj).1, fun i hi => ?_⟩, v10.kp ch1 (by simp)⟩
        have w9 : h.1 (c + 767 + j) i = enB (e.2 4) (s_n st) k B0 j i := (v9 j hj).2 i hi
        show h1.1 (c + 767 + j) i = enB (e.2 4) (s_n st) (k + 1) B0 j i
        rw [eh]
        by_cases hjk : j = k
        · subst hjk
          have y1 : enB (e.2 4) (s_n st) (j + 1) B0 j = endB (B0 j) (s_n st) := by unfold enB; rw [if_pos ⟨by omega, hb⟩]
          have y2 : enB (e.2 4) (s_n st) j B0 j = B0 j := by unfold enB; rw [if_neg (by omega)]
          rw [y2] at w9
          rw [y1]
          unfold endB
          by_cases i0 : i = 0
          · subst i0; rw [rI_n (by omega), rI_e, if_pos rfl]
          by_cases i2 : i = 2
          · subst i2; rw [rI_e, if_neg i0, if_pos rfl]
          rw [rI_n (by omega), rI_n (by omega), if_neg i0, if_neg i2]; exact w9
        · have y1 : enB (e.2 4) (s_n st) (k + 1) B0 j = enB (e.2 4) (s_n st) k B0 j := by
            unfold enB
            by_cases hjl : j < k
            · by_cases hbj : bL (e.2 4) j = true
              · rw [if_pos ⟨by omega, hbj⟩, if_pos ⟨hjl, hbj⟩]
              · rw [if_neg (fun hh => hbj hh.2), if_neg (fun hh => hbj hh.2)]
            · rw [if_neg (fun hh => by omega), if_neg (fun hh => hjl hh.1)]
          rw [y1, rI_n (by omega), rI_n (by omega)]; exact w9
      obtain ⟨h2, fu', t1, t2, t3⟩ := ih (k + 1) fu h1 st B0 (by omega) (by omega) vv (by rw [ch1.row (fun k => by rw [hA]; simp)]; exact ag)
      refine ⟨h2, fu', ?_, t2, ch1.tr t3⟩
      rw [← t1]
      have y3 : (sI h (c + 767 + k) 0 3).1 c 2 = nI (s_n st) := by rw [rI_n (by omega)]; exact v2
      simp only [f10_endEntries_L70, if_neg e1, g4, cL (show k < 64 by omega), hb, Bool.true_eq_false, if_false, e2, e3, x_gd, r1, x_ob (kc.2.2.2 k (show k < 60 by omega)), x_lt, nI_1, rI_r, y3, ← eh]
    · have vv : vC K c h o N aw (q_B st (enB (e.2 4) (s_n st) (k + 1) B0)) := by
        have : enB (e.2 4) (s_n st) (k + 1) B0 = enB (e.2 4) (s_n st) k B0 := by
          funext j
          unfold enB
          by_cases hjk : j = k
          · subst hjk; rw [if_neg (fun hh => hb hh.2), if_neg (fun hh => hb hh.2)]
          · by_cases hjl : j < k
            · by_cases hbj : bL (e.2 4) j = true
              · rw [if_pos ⟨by omega, hbj⟩, if_pos ⟨hjl, hbj⟩]
              · rw [if_neg (fun hh => hbj hh.2), if_neg (fun hh => hbj hh.2)]
            · rw [if_neg (fun hh => by omega), if_neg (fun hh => hjl hh.1)]
        rw [this]; exact v
      obtain ⟨h2, fu', t1, t2, t3⟩ := ih (k + 1) fu h st B0 (by omega) (by omega) vv ag
      refine ⟨h2, fu', ?_, t2, t3⟩
      rw [← t1]
      simp only [f10_endEntries_L70, if_neg e1, g4, cL (show k < 64 by omega), if_pos (show bL (e.2 4) k = false by simpa using hb), x_lt, nI_1]
theorem cends_L (ok : nOk N) (kc : KC K c) (hn : 400 ≤ n) (now : Nat) : ∀ (w u : List En) (fu : Nat) (h : Hp) (st : St), s_n st = now → s_L st = u ++ w → w.length < fu → (∀ e ∈ w, eOk N e) → vC K c h o N aw st → ∃ h', f10_endEntries_L7 K n c fu (nI u.length) (nI w.length) h = some h' ∧ vC K c h' o N aw (q_L ((w.filter (fun e => decide (e.1 10 = nI now))).foldl (end1 N) st) (u ++ w.filter (fun e => !(decide (e.1 10 = nI now))))) ∧ Ch [1, 5, 6, 8] c h h' := by
  intro w
  induction w with
  | nil =>
    intro u fu h st hnw hl hf he v
    obtain ⟨fu, rfl⟩ : ∃ g, fu = g + 1 := ⟨fu - 1, by omega⟩
    refine ⟨h, ?_, ?_, Ch.rf⟩
    · have e1 : nI ([] : List En).length ≤ (0 : Int32) := by decide
      simp only [f10_endEntries_L7, if_pos e1]
    · have : q_L st (u ++ ([] : List En)) = st := by rw [← hl]; rfl
      show vC K c h o N aw (q_L st (u ++ ([] : List En)))
      rw [this]; exact v
  | cons e w ih =>
    intro u fu h st hnw hl hf he v
    obtain ⟨fu, rfl⟩ : ∃ g, fu = g + 1 := ⟨fu - 1, by omega⟩
    obtain ⟨v1, v2, v3, v4, v5, v6, v7, v8, v9, v10⟩ := id v
    obtain ⟨⟨n1, n2, n3, n4⟩, n5⟩ := id v1
    rw [hl] at v4
    obtain ⟨j, j1, j2, j3, j4, j5, j6, j7⟩ := cvE_at v4
    have wl : (e :: w).length ≤ 360 := by rw [List.length_append] at j5; omega
    have e1 : ¬ nI (e :: w).length ≤ (0 : Int32) := nI_nle (by simp) (by omega)
    have e2 : inb (nI u.length) 360 = true := x_in (by omega) (by omega)
    have e3 : (nI u.length).toNatClampNeg = u.length := x_cl (by omega)
    obtain ⟨⟨nd, nd1, nd2⟩, ⟨t, t1, t2⟩⟩ := he e (by simp)
    have b0 := ok.1
    obtain ⟨A, hA⟩ : ∃ A, A = c + 23 + 2 * j := ⟨_, rfl⟩
    rw [← hA] at j3 j6
    have rg : ∀ k, rgC c A k = 1 := fun k => by rw [hA]; exact rg_e j1
    have kA : K A = some (.inl 6) := by rw [hA]; exact kc.1 j j1
    have g10 : h.1 A 10 = e.1 10 := j6.1 10 (by omega) (by omega) (by omega)
    have g7 : h.1 A 7 = nI t := (j6.1 7 (by omega) (by omega) (by omega)).trans t2
    have g0 : h.1 A 0 = nI nd := (j6.1 0 (by omega) (by omega) (by omega)).trans nd2
    have hwl : nI (e :: w).length + -1 = nI w.length := x_pre
    by_cases hd : e.1 10 = nI now
    · have ne : ¬ nI t = (-1 : Int32) := by rw [x_nm1 (by omega)]; exact not_false
      have e4 : nI nd * (6 : Int32) + nI t = nI (6 * nd + t) := by rw [l_6, pk_mul, nI_add, Nat.mul_comm]
      have e5 : inb (nI (6 * nd + t)) 36 = true := x_in (by omega) (by omega)
      have e6 : (nI (6 * nd + t)).toNatClampNeg = 6 * nd + t := x_cl (by omega)
      have e7 : inb (nI nd) 6 = true := x_in (by omega) (by omega)
      have e8 : (nI nd).toNatClampNeg = nd := x_cl (by omega)
      obtain ⟨h1, eh⟩ : ∃ h1, h1 = sI h (c + 18) (6 * nd + t) (nI (N 1)) := ⟨_, rfl⟩
      have ch1 : Ch [5] c h h1 := by rw [eh]; exact Ch.I 5 rg_18 (by simp) Ch.rf
      let stM := q_M st (ug (s_M st) (6 * nd + t) (nI (N 1)))
      have vv1 : vC K c h1 o N aw (q_B stM (enB (e.2 4) (s_n stM) 0 (s_B st))) := by
        have eb : enB (e.2 4) (s_n stM) 0 (s_B st) = s_B st := by funext k; unfold enB; rw [if_neg (by omega)]
        rw [eb]
        refine ⟨v1.kp ch1 (by simp) (by simp), now_kp v2 ch1 (by simp), dn_kp v3 ch1 (by simp), ?_, v5.kp ch1 (by simp), fun i hi => ?_, v7.kp ch1 (by simp), v8.kp ch1 (by simp), v9.kp ch1 (by simp), v10.kp ch1 (by simp)⟩
        · show cvE c h1 (s_L st); rw [hl]; exact v4.kp ch1 (by simp)
        · show h1.1 (c + 18) i = ug (s_M st) (6 * nd + t) (nI (N 1)) i
          rw [eh]
          by_cases hi2 : i = 6 * nd + t
          · subst hi2; rw [ug_e, rI_e]
          · rw [ug_n hi2, rI_n (by omega)]; exact v6 i hi
      have ag1 : agE (rwo h1 A) e := by rw [ch1.row (fun k => by rw [rg]; simp)]; exact j6
      obtain ⟨h2, fu', t3, t4, t5⟩ := cend1 (n := n) (x1 := nI u.length) (x2 := nI (e :: w).length) (r7 := f10_endEntries_L7 K n c fu) kc rg 60 0 n h1 stM (s_B st) (by omega) (by omega) vv1 ag1
      have ag2 : agE (rwo h2 A) e := by rw [t5.row (fun k => by rw [rg]; simp)]; exact ag1
      have k0 : h2.1 A 0 = nI nd := (ag2.1 0 (by omega) (by omega) (by omega)).trans nd2
      have k5 : h2.2.1 A 5 = e.2 5 := ag2.2.2
      obtain ⟨w1, w2, w3, w4, w5, w6, w7, w8, w9, w10⟩ := id t4
      obtain ⟨h3, eh3⟩ : ∃ h3, h3 = sL h2 (c + 19) nd (s_D st nd ||| e.2 5) := ⟨_, rfl⟩
      have ch3 : Ch [6] c h2 h3 := by rw [eh3]; exact Ch.L 6 rg_19 (by simp) Ch.rf
      have ee : end1 N st e = q_D (q_B stM (enB (e.2 4) (s_n stM) 60 (s_B st))) (ug (s_D st) nd (s_D st nd ||| e.2 5)) := by
        have y1 : eNd e = nd := by unfold eNd; rw [nd2]; exact x_cl (by omega)
        have y2 : (e.1 7).toNatClampNeg = t := by rw [t2]; exact x_cl (by omega)
        unfold end1; rw [y1, y2]; rfl
      have vv3 : vC K c h3 o N aw (end1 N st e) := by
        rw [ee]
        refine ⟨w1.kp ch3 (by simp) (by simp), now_kp w2 ch3 (by simp), dn_kp w3 ch3 (by simp), w4.kp ch3 (by simp), w5.kp ch3 (by simp), w6.kp ch3 (by simp), fun i hi => ?_, w8.kp ch3 (by simp), w9.kp ch3 (by simp), w10.kp ch3 (by simp)⟩
        show h3.2.1 (c + 19) i = ug (s_D st) nd (s_D st nd ||| e.2 5) i
        rw [eh3]
        by_cases hi2 : i = nd
        · subst hi2; rw [ug_e, rL_e]
        · rw [ug_n hi2, rL_n (by omega)]; exact w7 i hi
      have vL := vv3.2.2.2.1
      have lE : s_L (end1 N st e) = u ++ e :: w := hl
      rw [lE] at vL
      obtain ⟨h4, d1, d2, d3⟩ := cdrop (n := n) kc vL hn
      have vv4 := vv3.eL d3 d2
      obtain ⟨h5, i1, i2, i3⟩ := ih u fu h4 (q_L (end1 N st e) (u ++ w)) hnw rfl (by simp at hf; omega) (fun e he' => he e (by simp [he'])) vv4
      refine ⟨h5, ?_, ?_, ((((ch1.up (by simp)).tr (t5.up (by simp))).tr (ch3.up (by simp))).tr (d3.up (by simp))).tr i3⟩
      · have st1 : f10_endEntries_L7 K n c (fu + 1) (nI u.length) (nI (e :: w).length) h = f10_endEntries_L70 K n c (nI u.length) (nI (e :: w).length) A (f10_endEntries_L7 K n c fu) n (nI 0) h1 := by
          simp only [f10_endEntries_L7, if_neg e1, e2, e3, x_gd, j3, x_ob kA, g10, v2, hnw, if_pos hd, g7, if_neg ne, n1, x_ob n2, g0, e4, e5, e6, x_lt, n3.1 1 (show 1 < 5 by omega), ← eh, f10_endEntries_J67]; rfl
        have v7' : h2.2.1 (c + 19) nd = s_D st nd := w7 nd (by omega)
        rw [st1, t3]
        simp only [f10_endEntries_L70, l_60, if_pos (nI_le (Nat.le_refl 60) (by omega)), k0, e7, e8, x_gd, v7', k5, x_lt, ← eh3, d1, x_bp, hwl]
        exact i1
      · have f1 : ((e :: w).filter (fun e => decide (e.1 10 = nI now))) = e :: w.filter (fun e => decide (e.1 10 = nI now)) := by simp [hd]
        have f2 : ((e :: w).filter (fun e => !(decide (e.1 10 = nI now)))) = w.filter (fun e => !(decide (e.1 10 = nI now))) := by simp [hd]
        rw [f1, f2, List.foldl_cons]
        have fl : ∀ (l : List En) (s : St) (L : List En), l.foldl (end1 N) (q_L s L) = q_L (l.foldl (end1 N) s) L := by
          intro l
          induction l with
          | nil => exact fun s L => rfl
          | cons a l ihl => exact fun s L => ihl (end1 N s a) L
        rw [fl] at i2
        exact i2
    · obtain ⟨h5, i1, i2, i3⟩ := ih (u ++ [e]) fu h st hnw (by simp [hl]) (by simp at hf; omega) (fun e he' => he e (by simp [he'])) v
      refine ⟨h5, ?_, ?_, i3⟩
      · rw [← len_sn (t := e)] at i1
        simp only [f10_endEntries_L7, if_neg e1, e2, e3, x_gd, j3, x_ob kA, g10, v2, hnw, if_neg hd, x_lt, nI_1, hwl]
        exact i1
      · have f1 : ((e :: w).filter (fun e => decide (e.1 10 = nI now))) = w.filter (fun e => decide (e.1 10 = nI now)) := by simp [hd]
        have f2 : ((e :: w).filter (fun e => !(decide (e.1 10 = nI now)))) = e :: w.filter (fun e => !(decide (e.1 10 = nI now))) := by simp [hd]
        rw [f1, f2]
        simpa using i2
theorem cends {st : St} (ok : nOk N) (kc : KC K c) (hn : 400 ≤ n) (he : ∀ e ∈ s_L st, eOk N e) (v : vC K c h o N aw st) : ∃ h', f10_endEntries K n c h = some h' ∧ vC K c h' o N aw (ends N st) ∧ Ch [1, 5, 6, 8] c h h' := by
  have l := cvE_len v.2.2.2.1
  obtain ⟨h', q1, q2, q3⟩ := cends_L (n := n) ok kc hn (s_n st) (s_L st) [] n h st rfl rfl (by omega) he v
  refine ⟨h', ?_, q2, q3⟩
  unfold f10_endEntries
  rw [x_lt, l.2]; exact q1
theorem cfirst_L (kc : KC K c) {L : List En} (v : cvE c h L) {nd : Nat} {p : Ms} {fr : Bool} (hg : h.1 (c + 16) 4 = p 4) : ∀ (w u : List En) (fu : Nat), L = u ++ w → w.length < fu → f10_firstServed_L2 K n c (nI nd) (if fr = true then 1 else 0) h fu (nI u.length) = some (ix u.length (fs (isV nd (p 4) fr) w)) := by
  intro w
  induction w with
  | nil =>
    intro u fu hl hf
    obtain ⟨fu, rfl⟩ : ∃ g, fu = g + 1 := ⟨fu - 1, by omega⟩
    have l := cvE_len v
    have l2 : L.length = u.length := by rw [hl]; simp
    have e0 : h.1 c 6 ≤ nI u.length := by rw [l.2]; exact nI_le (by omega) (by omega)
    simp only [f10_firstServed_L2, if_pos e0]; rfl
  | cons e w ih =>
    intro u fu hl hf
    obtain ⟨fu, rfl⟩ : ∃ g, fu = g + 1 := ⟨fu - 1, by omega⟩
    subst hl
    obtain ⟨j, j1, j2, j3, j4, j5, j6, -⟩ := cvE_at v
    have e0 : ¬ h.1 c 6 ≤ nI u.length := by rw [j4]; exact nI_ge (by simp) (by omega)
    have e3 : inb (nI u.length) 360 = true := x_in (by omega) (by omega)
    have e4 : (nI u.length).toNatClampNeg = u.length := x_cl (by omega)
    have sv : f10_isServed c (c + 23 + 2 * j) (nI nd) (if fr = true then 1 else 0) h = if isV nd (p 4) fr e = true then 1 else 0 := by
      have g0 : h.1 (c + 23 + 2 * j) 0 = e.1 0 := j6.1 0 (by omega) (by omega) (by omega)
      have g1 : h.1 (c + 23 + 2 * j) 1 = e.1 1 := j6.1 1 (by omega) (by omega) (by omega)
      have g2 : h.1 (c + 23 + 2 * j) 2 = e.1 2 := j6.1 2 (by omega) (by omega) (by omega)
      unfold f10_isServed
      rw [g0, g1, g2, hg]
      by_cases c0 : e.1 0 = nI nd
      · by_cases c1 : e.1 1 = p 4
        · by_cases c2 : e.1 2 = 0
          · simp [isV, c0, c1, c2]
          · cases fr <;> simp [isV, c0, c1, c2]
        · simp [isV, c1]
      · simp [isV, c0]
    have ih := ih (u ++ [e]) fu (by simp) (by simp at hf; omega)
    rw [← len_sn (t := e)] at ih
    simp only [f10_firstServed_L2, if_neg e0, e3, e4, j3, x_ob (kc.1 j j1), sv, x_gd, x_lt, nI_1]
    by_cases hv : isV nd (p 4) fr e = true
    · rw [if_pos hv, if_neg b_10, ix_p hv]
    · rw [if_neg hv, if_pos rfl, ih, ix_n (by simpa using hv)]; simp
theorem cserv {A nd : Nat} {e : En} {p : Ms} {fr : Bool} (ag : agE (rwo h A) e) (hg : h.1 (c + 16) 4 = p 4) : f10_isServed c A (nI nd) (if fr = true then 1 else 0) h = if isV nd (p 4) fr e = true then 1 else 0 := by
  have g0 : h.1 A 0 = e.1 0 := ag.1 0 (by omega) (by omega) (by omega)
  have g1 : h.1 A 1 = e.1 1 := ag.1 1 (by omega) (by omega) (by omega)
  have g2 : h.1 A 2 = e.1 2 := ag.1 2 (by omega) (by omega) (by omega)
  unfold f10_isServed
  rw [g0, g1, g2, hg]
  by_cases c0 : e.1 0 = nI nd
  · by_cases c1 : e.1 1 = p 4
    · by_cases c2 : e.1 2 = 0
      · simp [isV, c0, c1, c2]
      · cases fr <;> simp [isV, c0, c1, c2]
    · simp [isV, c1]
  · simp [isV, c0]
theorem clE_L {nd : Nat} {p : Ms} {e : En} {st : St} {L : List En} : clE N aw nd p (q_L st L) e = q_L (clE N aw nd p st e) L := by
  have a : ∀ (d j : Nat) (st : St), clN N aw nd (e.1 3) p d j (q_L st L) = q_L (clN N aw nd (e.1 3) p d j st) L := by
    intro d
    induction d with
    | zero => exact fun j st => rfl
    | succ d ih =>
      intro j st
      unfold clN
      split
      · rw [send_L, ih]
      · rw [ih]
  have b : ∀ (d k : Nat) (st : St), clS (e.2 4) p d k (q_L st L) = q_L (clS (e.2 4) p d k st) L := by
    intro d
    induction d with
    | zero => exact fun k st => rfl
    | succ d ih =>
      intro k st
      unfold clS
      split
      · rw [← ih]; rfl
      · rw [ih]
  unfold clE
  rw [a, b]; rfl
theorem clE_fL {nd : Nat} {p : Ms} : ∀ (l : List En) (st : St) (L : List En), l.foldl (clE N aw nd p) (q_L st L) = q_L (l.foldl (clE N aw nd p) st) L := by
  intro l
  induction l with
  | nil => exact fun s L => rfl
  | cons a l ihl => intro s L; rw [List.foldl_cons, List.foldl_cons, clE_L, ihl]
theorem cdata_L {nd : Nat} {p : Ms} {fr : Bool} (ok : nOk N) (kc : KC K c) (hnd : nd < 6) (hp : p 0 = 1) (hn : 400 ≤ n) : ∀ (w u : List En) (fu : Nat) (h : Hp) (st : St), s_L st = u ++ w → w.length < fu → (s_F st).length + cbL w ≤ 360 → vC K c h o N aw st → cvQ c h p → h.1 (c + 16) 4 = p 4 → ∃ h', f10_takeData_L145 K n c (nI nd) (if fr = true then 1 else 0) fu (nI u.length) (nI w.length) h = some h' ∧ vC K c h' o N aw (q_L ((w.filter (isV nd (p 4) fr)).foldl (clE N aw nd p) st) (u ++ w.filter (fun e => !(isV nd (p 4) fr e)))) ∧ Ch [1, 2, 6, 8, 9] c h h' := by
  intro w
  induction w with
  | nil =>
    intro u fu h st hl hf hF v q hg
    obtain ⟨fu, rfl⟩ : ∃ g, fu = g + 1 := ⟨fu - 1, by omega⟩
    refine ⟨h, ?_, ?_, Ch.rf⟩
    · have e1 : nI ([] : List En).length ≤ (0 : Int32) := by decide
      simp only [f10_takeData_L145, if_pos e1]
    · have : q_L st (u ++ ([] : List En)) = st := by rw [← hl]; rfl
      show vC K c h o N aw (q_L st (u ++ ([] : List En)))
      rw [this]; exact v
  | cons e w ih =>
    intro u fu h st hl hf hF v q hg
    obtain ⟨fu, rfl⟩ : ∃ g, fu = g + 1 := ⟨fu - 1, by omega⟩
    have v4 := v.2.2.2.1
    rw [hl] at v4
    obtain ⟨j, j1, j2, j3, j4, j5, j6, -⟩ := cvE_at v4
    have wl : (e :: w).length ≤ 360 := by rw [List.length_append] at j5; omega
    have e1 : ¬ nI (e :: w).length ≤ (0 : Int32) := nI_nle (by simp) (by omega)
    have e2 : inb (nI u.length) 360 = true := x_in (by omega) (by omega)
    have e3 : (nI u.length).toNatClampNeg = u.length := x_cl (by omega)
    have hwl : nI (e :: w).length + -1 = nI w.length := x_pre
    have sv := cserv (c := c) (nd := nd) (fr := fr) j6 hg
    have hc : cbL (e :: w) = cb (e.1 3) 6 0 + cbL w := by simp [cbL]
    by_cases hv : isV nd (p 4) fr e = true
    · have e0 : e.1 0 = nI nd := by simp [isV] at hv; exact hv.1
      obtain ⟨h1, a1, a2, a3⟩ := cclose (n := n) ok kc hnd e0 (Or.inl hp) hl hn (by omega) v q
      have cF := clE_F (N := N) (aw := aw) (nd := nd) (p := p) (st := st) (e := e)
      obtain ⟨h2, i1, i2, i3⟩ := ih u fu h1 (q_L (clE N aw nd p st e) (u ++ w)) rfl (by simp at hf; omega) (by show (s_F (clE N aw nd p st e)).length + _ ≤ _; omega) a2 (q.kp a3 (by simp)) (by rw [(a3 (c + 16) 4 (by rw [rg_16]; simp)).1]; exact hg)
      refine ⟨h2, ?_, ?_, a3.tr i3⟩
      · simp only [f10_takeData_L145, if_neg e1, e2, e3, x_gd, j3, x_ob (kc.1 j j1), sv, if_pos hv, if_neg b_10, a1, x_bp, x_lt, hwl]; exact i1
      · rw [clE_fL] at i2
        have f1 : (e :: w).filter (isV nd (p 4) fr) = e :: w.filter (isV nd (p 4) fr) := by simp [hv]
        have f2 : (e :: w).filter (fun e => !(isV nd (p 4) fr e)) = w.filter (fun e => !(isV nd (p 4) fr e)) := by simp [hv]
        rw [f1, f2]; exact i2
    · obtain ⟨h2, i1, i2, i3⟩ := ih (u ++ [e]) fu h st (by simp [hl]) (by simp at hf; omega) (by omega) v q hg
      refine ⟨h2, ?_, ?_, i3⟩
      · rw [← len_sn (t := e)] at i1
        simp only [f10_takeData_L145, if_neg e1, e2, e3, x_gd, j3, x_ob (kc.1 j j1), sv, if_neg hv, if_true, x_lt, nI_1, hwl]; exact i1
      · have f1 : (e :: w).filter (isV nd (p 4) fr) = w.filter (isV nd (p 4) fr) := by simp [hv]
        have f2 : (e :: w).filter (fun e => !(isV nd (p 4) fr e)) = e :: w.filter (fun e => !(isV nd (p 4) fr e)) := by simp [hv]
        rw [f1, f2]; simpa using i2
theorem ccame {p : Ms} (g : cvG c h p) : ∃ h', f7_copy K n (c + 17) (c + 16) h = some h' ∧ cvQ c h' p ∧ Ch [4] c h h' := by
  obtain ⟨h1, c1, c2, c3, c4⟩ := ccopy (K := K) (n := n) (h := h) (a := c + 17) (b := c + 16) (by omega)
  refine ⟨h1, c1, agP_tr g.1 (fun i i1 _ _ _ => c2 i i1), fun x i hx => ⟨c3 x i (fun hh => hx (by rw [hh, rg_17]; simp)), by rw [c4], by rw [c4]⟩⟩
theorem cdata {nd f : Nat} {p : Ms} {st : St} (ok : nOk N) (kc : KC K c) (hnd : nd < 6) (hf : f < 6) (hp : p 0 = 1) (p2 : p 2 = nI nd) (p1 : p 1 = nI f) (hn : 400 ≤ n) (hF : (s_F st).length + cbL (s_L st) ≤ 360) (v : vC K c h o N aw st) (g : cvG c h p) : ∃ h', f10_takeData K n c h = some h' ∧ vC K c h' o N aw (data N aw st nd f p) ∧ Ch [1, 2, 4, 5, 6, 7, 8, 9] c h h' := by
  obtain ⟨v1, v2, v3, v4, v5, v6, v7, v8, v9, v10⟩ := id v
  obtain ⟨⟨n1, n2, n3, n4⟩, n5⟩ := id v1
  obtain ⟨gp, g1, g2, g3⟩ := id g
  have g1 : h.1 (c + 16) 1 = nI f := g1.trans p1
  have g2 : h.1 (c + 16) 2 = nI nd := g2.trans p2
  obtain ⟨w7, w8, w9, w10⟩ := gp.2.2.2.1 hp
  have g4 : h.1 (c + 16) 4 = p 4 := gp.2.1
  have g7 : h.1 (c + 16) 7 = p 7 := w7
  have g8 : h.1 (c + 16) 8 = p 8 := w8
  have lE := cvE_len v4
  have fr : (if h.1 (c + 16) 7 < h.1 c 2 then (0 : Int32) else 1) = if frs p (s_n st) = true then 1 else 0 := by
    rw [g7, v2]
    unfold frs
    by_cases hh : p 7 < nI (s_n st) <;> simp [hh]
  have fst := cfirst_L (n := n) kc v4 (nd := nd) (p := p) (fr := frs p (s_n st)) g4 (s_L st) [] n rfl (by omega)
  have fst : f10_firstServed K n c (nI nd) (if frs p (s_n st) = true then 1 else 0) h = some (ix 0 (fs (isV nd (p 4) (frs p (s_n st))) (s_L st))) := fst
  unfold f10_takeData
  rw [x_lt, fr, g2]
  unfold f10_takeData_J27 data
  rw [fst, x_bp]
  have i6 : inb (nI nd) 6 = true := x_in (by omega) (by omega)
  have i7 : (nI nd).toNatClampNeg = nd := x_cl (by omega)
  cases hq : fs (isV nd (p 4) (frs p (s_n st))) (s_L st) with
  | none =>
    obtain ⟨q1, q2⟩ := ctick (i := 4) (by omega) v
    exact ⟨sI h (c + 22) 4 (h.1 (c + 22) 4 + 1), by simp only [ix, if_true, x_lt]; rfl, q1, q2.up (by simp)⟩
  | some r =>
    obtain ⟨u, e, w⟩ := r
    obtain ⟨l1, l2, l3⟩ := fs_some hq
    have v4' := v4
    rw [l1] at v4'
    obtain ⟨j, j1, j2, j3, j4, j5, j6, -⟩ := cvE_at v4'
    have e5 : ¬ nI u.length = -1 := by rw [x_nm1 (by omega)]; exact not_false
    have e8 : inb (nI u.length) 360 = true := x_in (by omega) (by omega)
    have e9 : (nI u.length).toNatClampNeg = u.length := x_cl (by omega)
    have k7 : h.1 (c + 23 + 2 * j) 7 = e.1 7 := j6.1 7 (by omega) (by omega) (by omega)
    have k9 : h.1 (c + 23 + 2 * j) 9 = e.1 9 := j6.1 9 (by omega) (by omega) (by omega)
    -- from the store on
    have tail : ∀ (h1 : Hp) (st1 : St), s_L st1 = s_L st → s_n st1 = s_n st → s_S st1 = s_S st → s_F st1 = s_F st → vC K c h1 o N aw st1 → cvG c h1 p → ∃ h', f10_takeData_J101 K n c (nI nd) (if frs p (s_n st) = true then 1 else 0) (nI u.length) h1 = some h' ∧ vC K c h' o N aw (q_L (((s_L st).filter (isV nd (p 4) (frs p (s_n st)))).foldl (clE N aw nd p) (q_S st1 (ug (s_S st) nd (kpS (s_S st nd) (p 4, p 7, p 8) (N (5 + nd)))))) ((s_L st).filter (fun e => !(isV nd (p 4) (frs p (s_n st)) e)))) ∧ Ch [1, 2, 4, 5, 6, 7, 8, 9] c h1 h' := by
      intro h1 st1 sL sN sS sF vv gg
      obtain ⟨x1, x2, x3, x4, x5, x6, x7, x8, x9, x10⟩ := id vv
      obtain ⟨⟨m1, m2, m3, m4⟩, m5⟩ := id x1
      obtain ⟨s1, s2⟩ := x8 nd hnd
      rw [sS] at s2
      obtain ⟨y7, y8, -, -⟩ := gg.1.2.2.2.1 hp
      have y4 : h1.1 (c + 16) 4 = p 4 := gg.1.2.1
      have rm := m3.2.1 nd hnd
      have rm4 := ok.2.2.2.2.2.1 nd hnd
      obtain ⟨h2, a1, a2, a3⟩ := skeep (K := K) (n := n) (s := c + 743 + 4 * nd) (ma := c + 16) (r := N (5 + nd)) (t := (p 4, p 7, p 8)) (by omega) s2 (by omega) rm4 y4 y7 y8
      have ch2 : Ch [7] c h1 h2 := fun x i hx => by
        by_cases hxa : c + 743 + 4 * nd ≤ x ∧ x < c + 743 + 4 * nd + 4
        · exfalso; apply hx; rw [rg_s (by omega) (by omega)]; simp
        · exact ⟨a3.1 x i (by omega), by rw [a3.2], by rw [a3.2]⟩
      have vv2 : vC K c h2 o N aw (q_S st1 (ug (s_S st) nd (kpS (s_S st nd) (p 4, p 7, p 8) (N (5 + nd))))) := by
        refine ⟨x1.kp ch2 (by simp) (by simp), now_kp x2 ch2 (by simp), dn_kp x3 ch2 (by simp), x4.kp ch2 (by simp), x5.kp ch2 (by simp), x6.kp ch2 (by simp), x7.kp ch2 (by simp), fun i hi => ⟨by rw [a3.2]; exact (x8 i hi).1, ?_⟩, x9.kp ch2 (by simp), x10.kp ch2 (by simp)⟩
        show vS _ h2 (ug (s_S st) nd (kpS (s_S st nd) (p 4, p 7, p 8) (N (5 + nd))) i)
        by_cases hi2 : i = nd
        · subst hi2; rw [ug_e]; exact a2
        · rw [ug_n hi2, ← sS]; exact (x8 i hi).2.kp (fun a k p1 p2 => a3.1 a k (by omega))
      obtain ⟨h3, b1, b2, b3⟩ := ccame (K := K) (n := n) (gg.kp ch2 (by simp))
      have vv3 := vv2.kp4 b3
      have g43 : h3.1 (c + 16) 4 = p 4 := ((gg.kp ch2 (by simp)).kp b3 (by simp)).1.2.1
      have lw : (u ++ e :: w).length = u.length + (e :: w).length := by simp
      have hcb : cbL (s_L st) = cbL u + cbL (e :: w) := by rw [l1]; simp [cbL]
      obtain ⟨h4, d1, d2, d3⟩ := cdata_L (n := n) (fr := frs p (s_n st)) ok kc hnd hp hn (e :: w) u n h3 _ (by show s_L st1 = _; rw [sL, l1]) (by rw [lw] at j5; omega) (by show (s_F st1).length + _ ≤ _; rw [sF]; omega) vv3 b2 g43
      refine ⟨h4, ?_, ?_, ((ch2.up (by simp)).tr (b3.up (by simp))).tr (d3.up (by simp))⟩
      · have c6 : h3.1 c 6 = nI (u.length + (e :: w).length) := by
          have := (cvE_len vv3.2.2.2.1).2
          rw [show s_L (q_S st1 (ug (s_S st) nd (kpS (s_S st nd) (p 4, p 7, p 8) (N (5 + nd))))) = u ++ e :: w from sL.trans l1, lw] at this
          exact this
        have sb : nI (u.length + (e :: w).length) - nI u.length = nI (e :: w).length := by rw [pk_sub (by omega), show u.length + (e :: w).length - u.length = (e :: w).length by omega]
        simp only [f10_takeData_J101, i6, i7, x_gd, s1, x_ob (kc.2.2.1 nd hnd), m1, x_ob m2, rm, a1, x_bp, b1, x_lt, c6, sb]
        exact d1
      · have f1 : (s_L st).filter (isV nd (p 4) (frs p (s_n st))) = (e :: w).filter (isV nd (p 4) (frs p (s_n st))) := by
          rw [l1, List.filter_append, List.filter_eq_nil_iff.mpr (fun a ha => by simp [l3 a ha])]; rfl
        have f2 : (s_L st).filter (fun e => !(isV nd (p 4) (frs p (s_n st)) e)) = u ++ (e :: w).filter (fun e => !(isV nd (p 4) (frs p (s_n st)) e)) := by
          rw [l1, List.filter_append, List.filter_eq_self.mpr (fun a ha => by simp [l3 a ha])]
        rw [f1, f2]; exact d2
    simp only [ix, Nat.zero_add, if_neg e5, e8, e9, x_gd, j3, x_ob (kc.1 j j1), k7, g1]
    by_cases hx : e.1 7 = nI f
    · have e4 : nI nd * (6 : Int32) + nI f = nI (6 * nd + f) := by rw [l_6, pk_mul, nI_add, Nat.mul_comm]
      have e5 : inb (nI (6 * nd + f)) 36 = true := x_in (by omega) (by omega)
      have e6 : (nI (6 * nd + f)).toNatClampNeg = 6 * nd + f := x_cl (by omega)
      obtain ⟨h1, eh⟩ : ∃ h1, h1 = sI h (c + 18) (6 * nd + f) (nI (s_n st) - e.1 9) := ⟨_, rfl⟩
      have ch1 : Ch [5] c h h1 := by rw [eh]; exact Ch.I 5 rg_18 (by simp) Ch.rf
      have vv1 : vC K c h1 o N aw (q_M st (ug (s_M st) (6 * nd + f) (nI (s_n st) - e.1 9))) := by
        refine ⟨v1.kp ch1 (by simp) (by simp), now_kp v2 ch1 (by simp), dn_kp v3 ch1 (by simp), v4.kp ch1 (by simp), v5.kp ch1 (by simp), fun i hi => ?_, v7.kp ch1 (by simp), v8.kp ch1 (by simp), v9.kp ch1 (by simp), v10.kp ch1 (by simp)⟩
        show h1.1 (c + 18) i = ug (s_M st) (6 * nd + f) (nI (s_n st) - e.1 9) i
        rw [eh]
        by_cases hi2 : i = 6 * nd + f
        · subst hi2; rw [ug_e, rI_e]
        · rw [ug_n hi2, rI_n (by omega)]; exact v6 i hi
      obtain ⟨h', t1, t2, t3⟩ := tail h1 (q_M st (ug (s_M st) (6 * nd + f) (nI (s_n st) - e.1 9))) rfl rfl rfl rfl vv1 (g.kp ch1 (by simp))
      refine ⟨h', ?_, ?_, (ch1.up (by simp)).tr t3⟩
      · simp only [if_pos hx, e4, e5, e6, x_gd, v2, k9, x_lt, ← eh]; exact t1
      · simp only [if_pos hx]; exact t2
    · obtain ⟨h', t1, t2, t3⟩ := tail h st rfl rfl rfl rfl v g
      refine ⟨h', ?_, ?_, t3⟩
      · simp only [if_neg hx]; exact t1
      · simp only [if_neg hx]; exact t2
theorem cnack {nd f nm : Nat} {p : Ms} {st : St} (ok : nOk N) (kc : KC K c) (hnd : nd < 6) (hf : f < 6) (hnm : nm < 531441) (hp : p 0 = 2) (p2 : p 2 = nI nd) (p1 : p 1 = nI f) (p4 : p 4 = nI nm) (hn : 400 ≤ n) (hF : (s_F st).length + cbL (s_L st) ≤ 360) (hF1 : (s_F st).length < 360) (v : vC K c h o N aw st) (g : cvG c h p) : ∃ h', f10_takeNack K n c h = some h' ∧ vC K c h' o N aw (nack N aw st nd f nm p) ∧ Ch [1, 2, 4, 6, 8, 9] c h h' := by
  obtain ⟨v1, v2, v3, v4, v5, v6, v7, v8, v9, v10⟩ := id v
  obtain ⟨gp, g1, g2, g3⟩ := id g
  have g1 : h.1 (c + 16) 1 = nI f := g1.trans p1
  have g2 : h.1 (c + 16) 2 = nI nd := g2.trans p2
  obtain ⟨w5, w11, w12, w13⟩ := gp.2.2.2.2 hp
  have g4 : h.1 (c + 16) 4 = p 4 := gp.2.1
  have g5 : h.1 (c + 16) 5 = p 5 := w5
  unfold f10_takeNack nack
  rw [g2, g4, g5, cfind kc v4 hn, x_bp]
  cases hq : fs (isE nd (p 4) (p 5)) (s_L st) with
  | none => exact ⟨h, by simp only [ix, if_true], v, Ch.rf⟩
  | some r =>
    obtain ⟨u, e, w⟩ := r
    obtain ⟨l1, l2, l3⟩ := fs_some hq
    have l2 : e.1 0 = nI nd ∧ e.1 1 = p 4 ∧ e.1 2 = p 5 := by simpa [isE] using l2
    have v4' := v4
    rw [l1] at v4'
    obtain ⟨j, j1, j2, j3, j4, j5, j6, j7⟩ := cvE_at v4'
    have e5 : ¬ nI u.length = -1 := by rw [x_nm1 (by omega)]; exact not_false
    have e8 : inb (nI u.length) 360 = true := x_in (by omega) (by omega)
    have e9 : (nI u.length).toNatClampNeg = u.length := x_cl (by omega)
    have k7 : h.1 (c + 23 + 2 * j) 7 = e.1 7 := j6.1 7 (by omega) (by omega) (by omega)
    simp only [ix, Nat.zero_add, if_neg e5, e8, e9, x_gd, j3, x_ob (kc.1 j j1), k7, g1]
    by_cases hx : e.1 7 = nI f
    · rw [if_pos hx, if_pos hx]
      have go := cgoOn (n := n) ok kc j1 rfl v j6 l2.1 (l2.2.1.trans p4) hnd hnm hF1 (by omega) (L6 := fun t => u ++ eOut e t (s_n st) :: w) (fun t h' q ag => j7 h' _ q ag)
      cases hb : bw N aw (s_d st) (s_M st) nd nm (e.1 3 ||| e.1 8) with
      | some t =>
        rw [hb] at go
        obtain ⟨h1, a1, a2, a3, -, -⟩ := go
        refine ⟨h1, ?_, ?_, a3.up (by simp)⟩
        · rw [a1, x_bd, if_neg (by decide)]
        · rw [l2.2.1, l2.2.2] at a2; exact a2
      | none =>
        rw [hb] at go
        have go : f10_goOn K n c (c + 23 + 2 * j) h = some (0, h) := go
        obtain ⟨h1, b1, b2, b3⟩ := ccame (K := K) (n := n) g
        have d11 : h1.1 (c + 16) 11 = p 7 := (g.kp b3 (by simp)).1.2.2.2.2 hp |>.2.1
        obtain ⟨h2, eh⟩ : ∃ h2, h2 = sI h1 (c + 17) 11 (p 7 + 1) := ⟨_, rfl⟩
        have ch2 : Ch [4] c h1 h2 := by rw [eh]; exact Ch.I 4 rg_17 (by simp) Ch.rf
        have q2 : cvQ c h2 (fun i => if i = 7 then p 7 + 1 else p i) := by
          obtain ⟨a0, a4, a1, a2, a3⟩ := b2
          obtain ⟨z5, z11, z12, z13⟩ := a3 hp
          rw [eh]
          refine ⟨?_, ?_, fun hh => ?_, fun hh => ?_, fun _ => ⟨?_, ?_, ?_, ?_⟩⟩
          · rw [rI_n (by omega)]; exact a0
          · rw [rI_n (by omega)]; exact a4
          · have hh : p 0 = 0 := hh
            rw [hp] at hh; exact absurd hh (by decide)
          · have hh : p 0 = 1 := hh
            rw [hp] at hh; exact absurd hh (by decide)
          · rw [rI_n (by omega)]; exact z5
          · rw [rI_e]; rfl
          · rw [rI_n (by omega)]; exact z12
          · rw [rI_n (by omega)]; exact z13
        have hcb : cb (e.1 3) 6 0 ≤ cbL (s_L st) := by rw [l1]; simp [cbL]; omega
        obtain ⟨h3, d1, d2, d3⟩ := cclose (n := n) (p := fun i => if i = 7 then p 7 + 1 else p i) ok kc hnd l2.1 (Or.inr hp) l1 hn (by omega) ((v.kp4 b3).kp4 ch2) q2
        refine ⟨h3, ?_, d2, ((b3.up (by simp)).tr (ch2.up (by simp))).tr (d3.up (by simp))⟩
        rw [go, x_bd, if_pos rfl, b1, x_bp, d11, x_lt, ← eh, d1, x_bp]
    · rw [if_neg hx, if_neg hx]
      exact ⟨h, rfl, v, Ch.rf⟩
end CTake
