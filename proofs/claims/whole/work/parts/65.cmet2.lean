/-! an interest is met -/
section CMet
variable {K : Ly} {n c o : Nat} {h : Hp} {N : Nat → Nat} {aw : Int32}
theorem ix_m1 {α : Type} {r : Option (List α × α × List α)} (hr : ∀ q, r = some q → q.1.length < 2147483648) : (ix 0 r = -1) = (r = none) := by
  cases r with
  | none => simp [ix]
  | some q => simp only [ix, Nat.zero_add, x_nm1 (hr q rfl)]; simp
theorem cmet124 {nd k nm : Nat} {fr : Option Nat} {ws : Int32} {st : St} (ok : nOk N) (kc : KC K c) (hnd : nd < 6) (hk : k < 60) (hf : ∀ f, fr = some f → f < 6 ∧ (s_F st).length < 360) (v : vC K c h o N aw st) : ∃ h', f10_isMet_J124 K n c (nI nd) (oI fr) (nI nm) ws (nI k) h = some (1, h') ∧ vC K c h' o N aw (answ N aw (tick st 3) nd fr k (plN (nI nm) ws 2 nd)) ∧ Ch [1, 2, 4, 7, 8, 9] c h h' := by
  obtain ⟨q1, q2⟩ := ctick (i := 3) (by omega) v
  obtain ⟨h2, a1, a2, a3⟩ := csayN (K := K) (n := n) (c := c) (h := sI h (c + 22) 3 (h.1 (c + 22) 3 + 1)) (nm := nI nm) (ws := ws) (root := 2) (nd := nd)
  obtain ⟨h3, b1, b2, b3⟩ := cansw (n := n) (nd := nd) (fr := fr) (k := k) (st := tick st 3) ok kc hnd hf hk (Or.inr rfl) (q1.kp4 a3) a2
  refine ⟨h3, ?_, b2, ((q2.up (by simp)).tr (a3.up (by simp))).tr (b3.up (by simp))⟩
  unfold f10_isMet_J124
  rw [x_lt]
  show (bp (f10_sayNack K n c (nI nm) ws 2 (nI nd) (sI h (c + 22) 3 (h.1 (c + 22) 3 + 1))) _) = _
  rw [a1, x_bp, b1, x_bp]
theorem cmetA {nd k nm : Nat} {fr : Option Nat} {ws : Int32} {st : St} (kc : KC K c) (hk : k < 60) (hn : 400 ≤ n) (v : vC K c h o N aw st) : f10_isMet K n c (nI nd) (oI fr) (nI nm) ws (nI k) h = f10_isMet_J41 K n c (nI nd) (oI fr) (nI nm) ws (nI k) (ix 0 (fs (isE nd (nI nm) ws) (s_L st))) (if known (fs (isE nd (nI nm) ws) (s_L st)) k = true then 1 else 0) h := by
  obtain ⟨v1, v2, v3, v4, v5, v6, v7, v8, v9, v10⟩ := v
  unfold f10_isMet
  rw [cfind kc v4 hn, x_bp]
  cases hq : fs (isE nd (nI nm) ws) (s_L st) with
  | none => simp [ix, known, f10_isMet_J40]
  | some r =>
    obtain ⟨u, e, w⟩ := r
    obtain ⟨l1, -, -⟩ := fs_some hq
    rw [l1] at v4
    obtain ⟨j, j1, j2, j3, j4, j5, j6, -⟩ := cvE_at v4
    have e5 : ¬ nI u.length = -1 := by rw [x_nm1 (by omega)]; exact not_false
    have e3 : inb (nI u.length) 360 = true := x_in (by omega) (by omega)
    have e4 : (nI u.length).toNatClampNeg = u.length := x_cl (by omega)
    have e6 : h.2.1 (c + 23 + 2 * j) 5 = e.2 5 := j6.2.2
    simp only [ix, Nat.zero_add, if_neg e5, e3, e4, x_gd, j3, x_ob (kc.1 j j1), e6, cL (show k < 64 by omega), known]
    by_cases hb : bL (e.2 5) k = true <;> simp [hb]
theorem cmetB {nd k nm : Nat} {fr : Option Nat} {ws s0 x6 : Int32} {st : St} (kc : KC K c) (hnd : nd < 6) (hn : 400 ≤ n) (v : vC K c h o N aw st) : f10_isMet_J41 K n c (nI nd) (oI fr) (nI nm) ws (nI k) x6 s0 h = f10_isMet_J90 K n c (nI nd) (oI fr) (nI nm) ws (nI k) x6 s0 (ix 0 (fs (isN (nI nm)) (s_S st nd))) (if (goodS (fs (isN (nI nm)) (s_S st nd)) ws (s_n st)).isSome = true then 1 else 0) h := by
  obtain ⟨v1, v2, v3, v4, v5, v6, v7, v8, v9, v10⟩ := v
  obtain ⟨s1, s2⟩ := v8 nd hnd
  have e3 : inb (nI nd) 6 = true := x_in (by omega) (by omega)
  have e4 : (nI nd).toNatClampNeg = nd := x_cl (by omega)
  unfold f10_isMet_J41
  rw [e3, x_gd, e4, s1, x_ob (kc.2.2.1 nd hnd), sfind (by omega) s2, x_bp]
  cases hq : fs (isN (nI nm)) (s_S st nd) with
  | none => simp [ix, goodS, f10_isMet_J89]
  | some r =>
    obtain ⟨u, t, w⟩ := r
    obtain ⟨l1, -, -⟩ := fs_some hq
    have s3 := s2.1
    have l2 : u.length < 4 := by rw [l1] at s3; simp at s3; omega
    have e5 : ¬ nI u.length = -1 := by rw [x_nm1 (by omega)]; exact not_false
    have e6 := s2.2.2 u.length (by rw [l1]; simp)
    rw [l1, ge_mid] at e6
    have e7 : h.1 (c + 743 + 4 * nd + 2) u.length = t.2.1 := by rw [Option.some.inj e6]
    have e8 : inb (nI u.length) 4 = true := x_in (by omega) (by omega)
    have e9 : (nI u.length).toNatClampNeg = u.length := x_cl (by omega)
    simp only [ix, Nat.zero_add, if_neg e5, e3, e4, x_gd, s1, x_ob (kc.2.2.1 nd hnd), e7, e8, e9, v2, goodS, f10_isMet_J85]
    by_cases hw : ws = 0
    · simp [hw]
    · rw [if_neg hw]
      by_cases hl : t.2.1 < nI (s_n st) <;> simp [hw, hl]
theorem cmet {nd k nm : Nat} {fr : Option Nat} {ws : Int32} {st : St} (ok : nOk N) (kc : KC K c) (hnd : nd < 6) (hnm : nm < 531441) (hk : k < 60) (hf : ∀ f, fr = some f → f < 6 ∧ (s_F st).length < 360) (hn : 400 ≤ n) (v : vC K c h o N aw st) : ∃ y h', f10_isMet K n c (nI nd) (oI fr) (nI nm) ws (nI k) h = some (y, h') ∧ Ch [1, 2, 4, 7, 8, 9] c h h' ∧ ((y = 0 ∧ h' = h ∧ inte N aw st nd fr nm ws k = makeE N aw st nd fr nm ws k ∧ fs (isE nd (nI nm) ws) (s_L st) = none ∧ ¬ bL (s_D st nd) k = true) ∨ (y = 1 ∧ vC K c h' o N aw (inte N aw st nd fr nm ws k))) := by
  rw [cmetA kc hk hn v, cmetB kc hnd hn v]
  obtain ⟨v1, v2, v3, v4, v5, v6, v7, v8, v9, v10⟩ := id v
  obtain ⟨⟨n1, n2, n3, n4⟩, n5⟩ := id v1
  have e3 : inb (nI nd) 6 = true := x_in (by omega) (by omega)
  have e4 : (nI nd).toNatClampNeg = nd := x_cl (by omega)
  have dd := v7 nd hnd
  unfold f10_isMet_J90
  rw [n1, x_ob n2, serving_ok ok n3 hnm hnd (by omega), x_bp]
  simp only [e3, e4, x_gd, dd, cL (show k < 64 by omega)]
  unfold inte
  by_cases c1 : known (fs (isE nd (nI nm) ws) (s_L st)) k = true
  · obtain ⟨h', q1, q2, q3⟩ := cmet124 (n := n) (nm := nm) (ws := ws) ok kc hnd hk hf v
    refine ⟨1, h', ?_, q3, Or.inr ⟨rfl, ?_⟩⟩
    · rw [if_pos c1, if_neg (by decide)]; exact q1
    · rw [if_pos (Or.inl c1)]; exact q2
  rw [if_neg c1, if_pos rfl]
  by_cases c2 : bL (s_D st nd) k = true
  · obtain ⟨h', q1, q2, q3⟩ := cmet124 (n := n) (nm := nm) (ws := ws) ok kc hnd hk hf v
    refine ⟨1, h', ?_, q3, Or.inr ⟨rfl, ?_⟩⟩
    · rw [if_neg (by simp [c2])]; exact q1
    · rw [if_pos (Or.inr c2)]; exact q2
  rw [if_pos (by simpa using c2), if_neg (show ¬ (known (fs (isE nd (nI nm) ws) (s_L st)) k = true ∨ bL (s_D st nd) k = true) from fun hh => hh.elim c1 c2)]
  cases hg : goodS (fs (isN (nI nm)) (s_S st nd)) ws (s_n st) with
  | some r =>
    obtain ⟨u, t, w⟩ := r
    -- a good one in the store
    cases hq : fs (isN (nI nm)) (s_S st nd) with
    | none => rw [hq] at hg; cases hg
    | some r' =>
      rw [hq] at hg
      simp only [goodS] at hg
      split at hg
      · cases hg
        obtain ⟨l1, l2, -⟩ := fs_some hq
        have l2 : t.1 = nI nm := by simpa [isN] using l2
        obtain ⟨s1, s2⟩ := v8 nd hnd
        have s3 := s2.1
        have l3 : u.length < 4 := by rw [l1] at s3; simp at s3; omega
        have e6 := s2.2.2 u.length (by rw [l1]; simp)
        rw [l1, ge_mid] at e6
        obtain ⟨t1, t2⟩ := ctick (i := 1) (by omega) v
        obtain ⟨h2, a1, a2, a3⟩ := csayS (K := K) (n := n) (c := c) (h := sI h (c + 22) 1 (h.1 (c + 22) 1 + 1)) (s := c + 743 + 4 * nd) (nd := nd) (i := u.length) (t := t) (by omega) l3 (by rw [rI_n (by omega), Option.some.inj e6]) (by rw [rI_n (by omega), Option.some.inj e6]) (by rw [rI_n (by omega), Option.some.inj e6])
        have tv := t1.kp4 a3
        have sv2 := tv.2.2.2.2.2.2.2.1 nd hnd
        have sv3 : vS (c + 743 + 4 * nd) h2 (u ++ t :: w) := by rw [← l1]; exact sv2.2
        obtain ⟨h3, b1, b2, b3⟩ := suse (K := K) (n := n) (by omega) sv3
        have ch3 : Ch [7] c h2 h3 := fun x i hx => by
          by_cases hxa : c + 743 + 4 * nd ≤ x ∧ x < c + 743 + 4 * nd + 4
          · exfalso; apply hx; rw [rg_s (by omega) (by omega)]; simp
          · exact ⟨b3.1 x i (by omega), by rw [b3.2], by rw [b3.2]⟩
        have vv3 : vC K c h3 o N aw (q_S (tick st 1) (ug (s_S st) nd (u ++ w ++ [t]))) := by
          obtain ⟨w1, w2, w3, w4, w5, w6, w7, w8, w9, w10⟩ := tv
          refine ⟨w1.kp ch3 (by simp) (by simp), now_kp w2 ch3 (by simp), dn_kp w3 ch3 (by simp), w4.kp ch3 (by simp), w5.kp ch3 (by simp), w6.kp ch3 (by simp), w7.kp ch3 (by simp), fun i hi => ⟨by rw [b3.2]; exact (w8 i hi).1, ?_⟩, w9.kp ch3 (by simp), w10.kp ch3 (by simp)⟩
          show vS _ h3 (ug (s_S st) nd (u ++ w ++ [t]) i)
          by_cases hi2 : i = nd
          · subst hi2; rw [ug_e]; exact b2
          · rw [ug_n hi2]; exact (w8 i hi).2.kp (fun a k p1 p2 => b3.1 a k (by omega))
        have wq : cvQ c h3 (plD (nI nm) t.2.1 t.2.2 nd 1) := by rw [← l2]; exact a2.kp ch3 (by simp)
        obtain ⟨h4, d1, d2, d3⟩ := cansw (n := n) (nd := nd) (fr := fr) (k := k) (st := q_S (tick st 1) (ug (s_S st) nd (u ++ w ++ [t]))) ok kc hnd hf hk (Or.inl rfl) vv3 wq
        refine ⟨1, h4, ?_, (((t2.up (by simp)).tr (a3.up (by simp))).tr (ch3.up (by simp))).tr (d3.up (by simp)), Or.inr ⟨rfl, d2⟩⟩
        simp only [Option.isSome_some, if_true, if_neg b_10, x_lt, rI_r, s1, x_ob (kc.2.2.1 nd hnd), ix, Nat.zero_add]
        show (bp (f10_sayStored K n c (c + 743 + 4 * nd) (nI u.length) (nI nd) (sI h (c + 22) 1 (h.1 (c + 22) 1 + 1))) _) = _
        rw [a1, x_bp, sv2.1, x_ob (kc.2.2.1 nd hnd), b1, x_bp, d1, x_bp]
      · cases hg
  | none =>
    simp only [Option.isSome_none, Bool.false_eq_true, if_false, if_true]
    cases hs : sv N nd nm with
    | some s =>
      have hsl := svd_lt hs
      have h4 := ok.2.2.2.2.1
      have f1 : h.1 (o + 12) s = nI (N (106 + 3 * s)) := (n3.2.2.2.2.2 s hsl).2.2
      have e5 : ¬ nI s = -1 := by rw [x_nm1 (by omega)]; exact not_false
      have e8 : inb (nI s) 6 = true := x_in (by omega) (by omega)
      have e9 : (nI s).toNatClampNeg = s := x_cl (by omega)
      obtain ⟨h2, a1, a2, a3⟩ := csayV (K := K) (n := n) (c := c) (h := h) (nm := nI nm) (un := nI (s_n st + N (106 + 3 * s))) (nd := nd)
      obtain ⟨h3, b1, b2, b3⟩ := cansw (n := n) (nd := nd) (fr := fr) (k := k) ok kc hnd hf hk (Or.inl rfl) (v.kp4 a3) a2
      refine ⟨1, h3, ?_, (a3.up (by simp)).tr (b3.up (by simp)), Or.inr ⟨rfl, b2⟩⟩
      simp only [oI, if_neg e5, e8, e9, x_gd, n1, x_ob n2, v2, f1, nI_add, a1, x_bp]
      exact (by rw [b1, x_bp] : (bp (f10_answer K n c (nI nd) (oI fr) (nI k) h2) fun h36 => some ((1 : Int32), h36)) = some (1, h3))
    | none =>
      simp only [oI, if_true]
      cases hq : fs (isE nd (nI nm) ws) (s_L st) with
      | none =>
        exact ⟨0, h, by simp [ix], Ch.rf, Or.inl ⟨rfl, rfl, rfl, rfl, c2⟩⟩
      | some r =>
        obtain ⟨u, e, w⟩ := r
        obtain ⟨l1, -, -⟩ := fs_some hq
        obtain ⟨t1, t2⟩ := ctick (i := 2) (by omega) v
        have t4 := t1.2.2.2.1
        have t4 : cvE c (sI h (c + 22) 2 (h.1 (c + 22) 2 + 1)) (u ++ e :: w) := by rw [← l1]; exact t4
        obtain ⟨j, j1, j2, j3, j4, j5, j6, j7⟩ := cvE_at t4
        have e5 : ¬ nI u.length = -1 := by rw [x_nm1 (by omega)]; exact not_false
        have e8 : inb (nI u.length) 360 = true := x_in (by omega) (by omega)
        have e9 : (nI u.length).toNatClampNeg = u.length := x_cl (by omega)
        obtain ⟨h2, a1, a2, a3, a4⟩ := cjoin (K := K) (n := n) (k := k) (fr := fr) (fun f hh => by have := (hf f hh).1; omega) j6
        have q2 : sm1 c (sI h (c + 22) 2 (h.1 (c + 22) 2 + 1)) h2 (c + 23 + 2 * j) := fun x i hx hi => ⟨(a3 x hi i).1, (a3 x hi i).2, by rw [a4]⟩
        have ch2 : Ch [1] c (sI h (c + 22) 2 (h.1 (c + 22) 2 + 1)) h2 := fun x i hx => by
          by_cases hxa : x = c + 23 + 2 * j
          · exfalso; apply hx; rw [hxa, rg_e j1]; simp
          · exact ⟨(a3 x hxa i).1, (a3 x hxa i).2, by rw [a4]⟩
        refine ⟨1, h2, ?_, (t2.up (by simp)).tr (ch2.up (by simp)), Or.inr ⟨rfl, t1.eL ch2 (j7 h2 _ q2 a2)⟩⟩
        simp only [ix, Nat.zero_add, if_neg e5, x_lt, e8, e9, x_gd]
        show (ob ((sI h (c + 22) 2 (h.1 (c + 22) 2 + 1)).2.2 (c + 14) u.length) K 6 fun o28 => bp (f6_join K n o28 (oI fr) (nI k) (sI h (c + 22) 2 (h.1 (c + 22) 2 + 1))) fun h30 => some ((1 : Int32), h30)) = _
        rw [j3, x_ob (kc.1 j j1), a1, x_bp]
/-- an interest that comes to a node of the class -/
theorem cinte {nd k nm : Nat} {fr : Option Nat} {ws : Int32} {st : St} (ok : nOk N) (kc : KC K c) (hnd : nd < 6) (hnm : nm < 531441) (hk : k < 60) (hf : ∀ f, fr = some f → f < 6) (hF : (s_F st).length < 360) (hL : fs (isE nd (nI nm) ws) (s_L st) = none → ¬ bL (s_D st nd) k = true → (s_L st).length < 360) (hn : 400 ≤ n) (v : vC K c h o N aw st) : ∃ h', (bd (f10_isMet K n c (nI nd) (oI fr) (nI nm) ws (nI k) h) fun y g => if y = 0 then f10_makeEntry K n c (nI nd) (oI fr) (nI nm) ws (nI k) g else some g) = some h' ∧ vC K c h' o N aw (inte N aw st nd fr nm ws k) ∧ Ch [1, 2, 4, 7, 8, 9] c h h' := by
  obtain ⟨y, g, q1, q2, q3⟩ := cmet (n := n) (ws := ws) ok kc hnd hnm hk (fun f hh => ⟨hf f hh, hF⟩) hn v
  rcases q3 with ⟨y0, g0, e, e1, e2⟩ | ⟨y1, w⟩
  · subst y0; subst g0
    obtain ⟨h', r1, r2, r3⟩ := cmake (n := n) (ws := ws) ok kc hnd hnm hk hf hF (hL e1 e2) (by omega) v
    exact ⟨h', by rw [q1, x_bd, if_pos rfl, r1], by rw [e]; exact r2, r3.up (by simp)⟩
  · subst y1
    exact ⟨g, by rw [q1, x_bd, if_neg (by decide)], w, q2⟩
end CMet
