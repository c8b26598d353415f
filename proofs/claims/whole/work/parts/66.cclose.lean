/-! the class closes entries, ends them, lands messages -/
def cb (x : Int32) : Nat → Nat → Nat
  | 0, _ => 0
  | d + 1, j => (if bI x j = true then 1 else 0) + cb x d (j + 1)
def cbL (l : List En) : Nat := (l.map (fun e => cb (e.1 3) 6 0)).sum
section CClose
variable {K : Ly} {n c o : Nat} {h : Hp} {N : Nat → Nat} {aw : Int32}
theorem send_F {st : St} {a b : Nat} {p : Ms} : (s_F (send N aw st a b p)).length ≤ (s_F st).length + 1 := by
  unfold send
  cases upL N aw (s_d st) (6 * a + b) with
  | none => exact Nat.le_succ _
  | some l => show (s_F st ++ [_]).length ≤ _; simp
theorem clN_F {nd : Nat} {x : Int32} {p : Ms} : ∀ (d j : Nat) (st : St), (s_F (clN N aw nd x p d j st)).length ≤ (s_F st).length + cb x d j := by
  intro d
  induction d with
  | zero => exact fun j st => Nat.le_refl _
  | succ d ih =>
    intro j st
    have := ih (j + 1) (if bI x j = true then send N aw st nd j p else st)
    have h2 := send_F (N := N) (aw := aw) (st := st) (a := nd) (b := j) (p := p)
    unfold clN cb
    split <;> split at this <;> first | omega | contradiction
theorem clS_F {x : Int64} {p : Ms} : ∀ (d k : Nat) (st : St), s_F (clS x p d k st) = s_F st := by
  intro d
  induction d with
  | zero => exact fun k st => rfl
  | succ d ih =>
    intro k st
    unfold clS
    rw [ih]
    split <;> rfl
theorem clE_F {nd : Nat} {p : Ms} {st : St} {e : En} : (s_F (clE N aw nd p st e)).length ≤ (s_F st).length + cb (e.1 3) 6 0 := by
  show (s_F (clS (e.2 4) p 60 0 (clN N aw nd (e.1 3) p 6 0 st))).length ≤ _
  rw [clS_F]; exact clN_F 6 0 st
theorem send_k {st : St} {a b : Nat} {p : Ms} : s_n (send N aw st a b p) = s_n st ∧ s_d (send N aw st a b p) = s_d st ∧ s_L (send N aw st a b p) = s_L st ∧ s_M (send N aw st a b p) = s_M st ∧ s_D (send N aw st a b p) = s_D st ∧ s_S (send N aw st a b p) = s_S st ∧ s_B (send N aw st a b p) = s_B st := by
  unfold send
  cases upL N aw (s_d st) (6 * a + b) <;> exact ⟨rfl, rfl, rfl, rfl, rfl, rfl, rfl⟩
theorem clN_k {nd : Nat} {x : Int32} {p : Ms} : ∀ (d j : Nat) (st : St), s_n (clN N aw nd x p d j st) = s_n st ∧ s_d (clN N aw nd x p d j st) = s_d st ∧ s_L (clN N aw nd x p d j st) = s_L st ∧ s_M (clN N aw nd x p d j st) = s_M st ∧ s_D (clN N aw nd x p d j st) = s_D st ∧ s_S (clN N aw nd x p d j st) = s_S st ∧ s_B (clN N aw nd x p d j st) = s_B st := by
  intro d
  induction d with
  | zero => exact fun j st => ⟨rfl, rfl, rfl, rfl, rfl, rfl, rfl⟩
  | succ d ih =>
    intro j st
    have i1 := ih (j + 1) (if bI x j = true then send N aw st nd j p else st)
    have h2 := send_k (N := N) (aw := aw) (st := st) (a := nd) (b := j) (p := p)
    unfold clN
    by_cases hb : bI x j = true
    · rw [if_pos hb] at i1 ⊢
      exact ⟨i1.1.trans h2.1, i1.2.1.trans h2.2.1, i1.2.2.1.trans h2.2.2.1, i1.2.2.2.1.trans h2.2.2.2.1, i1.2.2.2.2.1.trans h2.2.2.2.2.1, i1.2.2.2.2.2.1.trans h2.2.2.2.2.2.1, i1.2.2.2.2.2.2.trans h2.2.2.2.2.2.2⟩
    · rw [if_neg hb] at i1 ⊢; exact i1
theorem clS_k {x : Int64} {p : Ms} : ∀ (d k : Nat) (st : St), s_n (clS x p d k st) = s_n st ∧ s_d (clS x p d k st) = s_d st ∧ s_L (clS x p d k st) = s_L st ∧ s_M (clS x p d k st) = s_M st ∧ s_D (clS x p d k st) = s_D st ∧ s_S (clS x p d k st) = s_S st ∧ s_T (clS x p d k st) = s_T st := by
  intro d
  induction d with
  | zero => exact fun k st => ⟨rfl, rfl, rfl, rfl, rfl, rfl, rfl⟩
  | succ d ih =>
    intro k st
    have i1 := ih (k + 1) (if bL x k = true then settle st k p else st)
    unfold clS
    by_cases hb : bL x k = true
    · rw [if_pos hb] at i1 ⊢; exact i1
    · rw [if_neg hb] at i1 ⊢; exact i1
theorem clE_k {nd : Nat} {p : Ms} {st : St} {e : En} : s_n (clE N aw nd p st e) = s_n st ∧ s_d (clE N aw nd p st e) = s_d st ∧ s_L (clE N aw nd p st e) = s_L st ∧ s_M (clE N aw nd p st e) = s_M st ∧ s_S (clE N aw nd p st e) = s_S st ∧ s_D (clE N aw nd p st e) = ug (s_D st) nd (s_D st nd ||| e.2 5) := by
  obtain ⟨a1, a2, a3, a4, a5, a6, -⟩ := clS_k (x := e.2 4) (p := p) 60 0 (clN N aw nd (e.1 3) p 6 0 st)
  obtain ⟨b1, b2, b3, b4, b5, b6, -⟩ := clN_k (N := N) (aw := aw) (nd := nd) (x := e.1 3) (p := p) 6 0 st
  refine ⟨a1.trans b1, a2.trans b2, a3.trans b3, a4.trans b4, a6.trans b6, ?_⟩
  show ug (s_D (clS (e.2 4) p 60 0 (clN N aw nd (e.1 3) p 6 0 st))) nd (s_D (clS (e.2 4) p 60 0 (clN N aw nd (e.1 3) p 6 0 st)) nd ||| e.2 5) = _
  rw [a5, b5]
theorem cdrop (kc : KC K c) {u w : List En} {e : En} (v : cvE c h (u ++ e :: w)) (hn : 400 ≤ n) : ∃ h', f10_drop K n c (nI u.length) h = some h' ∧ cvE c h' (u ++ w) ∧ Ch [1] c h h' := by
  obtain ⟨p, Le, v1, v2⟩ := v
  obtain ⟨u', a, w', e1, a1, a2, a3⟩ := v2.mid
  have l1 := a1.len
  have l2 := a3.len
  subst e1
  obtain ⟨m1, m2, m3, m4⟩ := v1.mid
  have hl : (u' ++ a :: w').length = u'.length + w'.length + 1 := by simp; omega
  have v3 := v1.2.2.1
  rw [hl] at v3
  have v6 := v1.2.2.2.1
  rw [hl] at v6
  obtain ⟨h', q1, q2, q3, q4⟩ := drop_L (K := K) (n := n) (c := c) (x2 := c + 23 + 2 * p u'.length) (cnt := u'.length + w'.length + 1) (p := p) kc.1 (fun j hj => (v1.1 j hj).1) (by omega) w'.length u'.length n h (by omega) (by omega) v6 (fun j hj hj2 => (v1.1 j hj2).2)
  have e3 : inb (nI u'.length) 360 = true := x_in (by omega) (by omega)
  have e4 : (nI u'.length).toNatClampNeg = u'.length := x_cl (by omega)
  have cs : ∀ x i, ¬ (x = c ∧ i = 6) → h'.1 x i = h.1 x i := fun x i hx => by
    rw [q2]; exact rI_n (by omega)
  refine ⟨h', ?_, ⟨_, u' ++ w', v1.del ?_ (fun j hj => ?_) (fun j hj => ?_), a1.app a3⟩, fun x i hx => ?_⟩
  · rw [← l1]
    simp only [f10_drop, e3, e4, x_gd, m3, x_ob (kc.1 _ m2)]; exact q1
  · rw [q2, rI_e, show u'.length + w'.length + 1 - 1 = u'.length + w'.length by omega]
  · rw [q4, if_pos rfl, show u'.length + w'.length + 1 - 1 = u'.length + w'.length by omega]
    by_cases c1 : j < u'.length
    · rw [if_pos c1, if_pos c1]; exact (v1.1 j hj).2
    · rw [if_neg c1, if_neg c1]
      by_cases c2 : j < u'.length + w'.length
      · rw [if_pos c2, if_pos c2]
      · rw [if_neg c2, if_neg c2]
        by_cases c3 : j = u'.length + w'.length
        · rw [if_pos c3, if_pos c3]
        · rw [if_neg c3, if_neg c3]; exact (v1.1 j hj).2
  · unfold rwo
    refine Prod.ext (funext fun i => cs _ _ (by omega)) ?_
    show h'.2.1 _ = _; rw [q3]
  · refine ⟨cs x i (fun hh => hx ?_), by rw [q3], ?_⟩
    · rw [hh.1, hh.2, rg_c6]; simp
    · rw [q4]
      by_cases hxa : x = c + 14
      · exfalso; apply hx; rw [hxa, rg_14]; simp
      · rw [if_neg hxa]
theorem cclose1 {A nd : Nat} {x1 : Int32} {e : En} {p : Ms} (ok : nOk N) (kc : KC K c) (hA : ∀ k, rgC c A k = 1) (hnd : nd < 6) (e0 : e.1 0 = nI nd) (hp : p 0 = 1 ∨ p 0 = 2) : ∀ (d j fu : Nat) (h : Hp) (st : St), j + d = 6 → d < fu → vC K c h o N aw st → cvQ c h p → agE (rwo h A) e → (s_F st).length + cb (e.1 3) d j ≤ 360 → ∃ h', f10_close_L9 K n c x1 A fu (nI j) h = f10_close_L43 K n c x1 A n (nI 0) h' ∧ vC K c h' o N aw (clN N aw nd (e.1 3) p d j st) ∧ Ch [2, 9] c h h' := by
  intro d
  induction d with
  | zero =>
    intro j fu h st hj hf v w ag hF
    obtain ⟨fu, rfl⟩ : ∃ g, fu = g + 1 := ⟨fu - 1, by omega⟩
    have e1 : (6 : Int32) ≤ nI j := by rw [l_6]; exact nI_le (by omega) (by omega)
    refine ⟨h, ?_, v, Ch.rf⟩
    simp only [f10_close_L9, if_pos e1]; rfl
  | succ d ih =>
    intro j fu h st hj hf v w ag hF
    obtain ⟨fu, rfl⟩ : ∃ g, fu = g + 1 := ⟨fu - 1, by omega⟩
    have e1 : ¬ (6 : Int32) ≤ nI j := by rw [l_6]; exact nI_ge (by omega) (by omega)
    have g3 : h.1 A 3 = e.1 3 := ag.1 3 (by omega) (by omega) (by omega)
    have g0 : h.1 A 0 = nI nd := (ag.1 0 (by omega) (by omega) (by omega)).trans e0
    simp only [f10_close_L9, if_neg e1, g3, g0, cI (show j < 32 by omega), x_lt, nI_1]
    by_cases hb : bI (e.1 3) j = true
    · have hF2 : (s_F st).length + (1 + cb (e.1 3) d (j + 1)) ≤ 360 := by
        have : cb (e.1 3) (d + 1) j = 1 + cb (e.1 3) d (j + 1) := by simp [cb, hb]
        omega
      obtain ⟨h1, s1, s2, s3⟩ := csend (n := n) (a := nd) (b := j) ok kc hnd (by omega) (by omega) v w
      have sf := send_F (N := N) (aw := aw) (st := st) (a := nd) (b := j) (p := p)
      obtain ⟨h2, t1, t2, t3⟩ := ih (j + 1) fu h1 _ (by omega) (by omega) s2 (w.kp s3 (by simp)) (by rw [s3.row (fun k => by rw [hA]; simp)]; exact ag) (by omega)
      refine ⟨h2, ?_, ?_, s3.tr t3⟩
      · rw [if_neg (by simp [hb]), s1, x_bp]; exact t1
      · simp only [clN, if_pos hb]; exact t2
    · have hF2 : cb (e.1 3) (d + 1) j = cb (e.1 3) d (j + 1) := by simp [cb, hb]
      obtain ⟨h2, t1, t2, t3⟩ := ih (j + 1) fu h st (by omega) (by omega) v w ag (by omega)
      refine ⟨h2, ?_, ?_, t3⟩
      · rw [if_pos (by simpa using hb)]; exact t1
      · simp only [clN, if_neg hb]; exact t2
theorem cclose2 {A : Nat} {x1 : Int32} {e : En} {p : Ms} (kc : KC K c) (hA : ∀ k, rgC c A k = 1) (hp : p 0 = 1 ∨ p 0 = 2) : ∀ (d k fu : Nat) (h : Hp) (st : St), k + d = 60 → d < fu → vC K c h o N aw st → cvQ c h p → agE (rwo h A) e → ∃ h' fu', f10_close_L43 K n c x1 A fu (nI k) h = f10_close_L43 K n c x1 A (fu' + 1) (nI 60) h' ∧ vC K c h' o N aw (clS (e.2 4) p d k st) ∧ Ch [8] c h h' := by
  intro d
  induction d with
  | zero =>
    intro k fu h st hk hf v w ag
    obtain ⟨fu, rfl⟩ : ∃ g, fu = g + 1 := ⟨fu - 1, by omega⟩
    refine ⟨h, fu, ?_, v, Ch.rf⟩
    rw [show k = 60 by omega]
  | succ d ih =>
    intro k fu h st hk hf v w ag
    obtain ⟨fu, rfl⟩ : ∃ g, fu = g + 1 := ⟨fu - 1, by omega⟩
    have e1 : ¬ (60 : Int32) ≤ nI k := by rw [l_60]; exact nI_ge (by omega) (by omega)
    have g4 : h.2.1 A 4 = e.2 4 := ag.2.1
    have un : f10_close_L43 K n c x1 A (fu + 1) (nI k) h = if bL (e.2 4) k = false then f10_close_L43 K n c x1 A fu (nI (k + 1)) h else bp (f10_settle K n c (nI k) h) fun h18 => f10_close_L43 K n c x1 A fu (nI (k + 1)) h18 := by
      simp only [f10_close_L43, if_neg e1, g4, cL (show k < 64 by omega), x_lt, nI_1]
    rw [un]
    by_cases hb : bL (e.2 4) k = true
    · obtain ⟨h1, s1, s2, s3⟩ := csettle (n := n) kc (show k < 60 by omega) hp v w
      obtain ⟨h2, fu', t1, t2, t3⟩ := ih (k + 1) fu h1 _ (by omega) (by omega) s2 (w.kp s3 (by simp)) (by rw [s3.row (fun k => by rw [hA]; simp)]; exact ag)
      refine ⟨h2, fu', ?_, ?_, s3.tr t3⟩
      · rw [if_neg (by simp [hb]), s1, x_bp]; exact t1
      · simp only [clS, if_pos hb]; exact t2
    · obtain ⟨h2, fu', t1, t2, t3⟩ := ih (k + 1) fu h st (by omega) (by omega) v w ag
      refine ⟨h2, fu', ?_, ?_, t3⟩
      · rw [if_pos (by simpa using hb)]; exact t1
      · simp only [clS, if_neg hb]; exact t2
theorem cclose {nd : Nat} {u w : List En} {e : En} {p : Ms} {st : St} (ok : nOk N) (kc : KC K c) (hnd : nd < 6) (e0 : e.1 0 = nI nd) (hp : p 0 = 1 ∨ p 0 = 2) (hl : s_L st = u ++ e :: w) (hn : 400 ≤ n) (hF : (s_F st).length + cb (e.1 3) 6 0 ≤ 360) (v : vC K c h o N aw st) (q : cvQ c h p) : ∃ h', f10_close K n c (nI u.length) h = some h' ∧ vC K c h' o N aw (q_L (clE N aw nd p st e) (u ++ w)) ∧ Ch [1, 2, 6, 8, 9] c h h' := by
  have v4 := v.2.2.2.1
  rw [hl] at v4
  obtain ⟨j, j1, j2, j3, j4, j5, j6, -⟩ := cvE_at v4
  have hA : ∀ k, rgC c (c + 23 + 2 * j) k = 1 := fun k => rg_e j1
  obtain ⟨h1, a1, a2, a3⟩ := cclose1 (n := n) (x1 := nI u.length) ok kc hA hnd e0 hp 6 0 n h st (by omega) (by omega) v q j6 hF
  have ag1 : agE (rwo h1 (c + 23 + 2 * j)) e := by rw [a3.row (fun k => by rw [hA]; simp)]; exact j6
  obtain ⟨h2, fu', b1, b2, b3⟩ := cclose2 (n := n) (x1 := nI u.length) kc hA hp 60 0 n h1 _ (by omega) (by omega) a2 (q.kp a3 (by simp)) ag1
  have ag2 : agE (rwo h2 (c + 23 + 2 * j)) e := by rw [b3.row (fun k => by rw [hA]; simp)]; exact ag1
  have g0 : h2.1 (c + 23 + 2 * j) 0 = nI nd := (ag2.1 0 (by omega) (by omega) (by omega)).trans e0
  have g5 : h2.2.1 (c + 23 + 2 * j) 5 = e.2 5 := ag2.2.2
  obtain ⟨w1, w2, w3, w4, w5, w6, w7, w8, w9, w10⟩ := b2
  obtain ⟨h3, e3⟩ : ∃ h3, h3 = sL h2 (c + 19) nd (s_D (clS (e.2 4) p 60 0 (clN N aw nd (e.1 3) p 6 0 st)) nd ||| e.2 5) := ⟨_, rfl⟩
  have ch3 : Ch [6] c h2 h3 := by rw [e3]; exact Ch.L 6 rg_19 (by simp) Ch.rf
  have vv3 : vC K c h3 o N aw (clE N aw nd p st e) := by
    refine ⟨w1.kp ch3 (by simp) (by simp), now_kp w2 ch3 (by simp), dn_kp w3 ch3 (by simp), w4.kp ch3 (by simp), w5.kp ch3 (by simp), w6.kp ch3 (by simp), fun i hi => ?_, w8.kp ch3 (by simp), w9.kp ch3 (by simp), w10.kp ch3 (by simp)⟩
    show h3.2.1 (c + 19) i = ug (s_D (clS (e.2 4) p 60 0 (clN N aw nd (e.1 3) p 6 0 st))) nd (s_D (clS (e.2 4) p 60 0 (clN N aw nd (e.1 3) p 6 0 st)) nd ||| e.2 5) i
    rw [e3]
    by_cases hi2 : i = nd
    · subst hi2; rw [ug_e, rL_e]
    · rw [ug_n hi2, rL_n (by omega)]; exact w7 i hi
  have lE : s_L (clE N aw nd p st e) = u ++ e :: w := clE_k.2.2.1.trans hl
  have vL := vv3.2.2.2.1
  rw [lE] at vL
  obtain ⟨h4, d1, d2, d3⟩ := cdrop (n := n) kc vL hn
  refine ⟨h4, ?_, vv3.eL d3 d2, (((a3.up (by simp)).tr (b3.up (by simp))).tr (ch3.up (by simp))).tr (d3.up (by simp))⟩
  have i3 : inb (nI u.length) 360 = true := x_in (by omega) (by omega)
  have i4 : (nI u.length).toNatClampNeg = u.length := x_cl (by omega)
  have i6 : inb (nI nd) 6 = true := x_in (by omega) (by omega)
  have i7 : (nI nd).toNatClampNeg = nd := x_cl (by omega)
  unfold f10_close
  rw [i3, x_gd, i4, j3, x_ob (kc.1 j j1)]
  refine a1.trans (b1.trans ?_)
  simp only [f10_close_L43, l_60, if_pos (nI_le (Nat.le_refl 60) (by omega)), g0, i6, i7, x_gd, w7 nd hnd, g5, x_lt, ← e3, d1, x_bp]
theorem cland {u w : List Ms} {p : Ms} {st : St} (kc : KC K c) (hl : s_F st = u ++ p :: w) (hn : 400 ≤ n) (v : vC K c h o N aw st) : ∃ h', f10_land K n c (nI u.length) h = some h' ∧ vC K c h' o N aw (q_F st (u ++ w)) ∧ cvG c h' p ∧ Ch [2, 3] c h h' := by
  obtain ⟨v1, v2, v3, v4, v5, v6, v7, v8, v9, v10⟩ := v
  rw [hl] at v5
  obtain ⟨pp, Le, f1, f2⟩ := v5
  obtain ⟨u', a, w', e1, a1, a2, a3⟩ := f2.mid
  have l1 := a1.len
  have l2 := a3.len
  subst e1
  obtain ⟨m1, m2, m3, m4⟩ := f1.mid
  have hl : (u' ++ a :: w').length = u'.length + w'.length + 1 := by simp; omega
  have f3 := f1.2.2.1
  rw [hl] at f3
  have f6 := f1.2.2.2.1
  rw [hl] at f6
  obtain ⟨h1, c1, c2, c3, c4⟩ := ccopy (K := K) (n := n) (h := h) (a := c + 16) (b := c + 24 + 2 * pp u'.length) (by omega)
  obtain ⟨h', q1, q2, q3, q4⟩ := land_L (K := K) (n := n) (c := c) (x2 := c + 24 + 2 * pp u'.length) (cnt := u'.length + w'.length + 1) (p := pp) kc.2.1 (fun j hj => (f1.1 j hj).1) (by omega) w'.length u'.length n h1 (by omega) (by omega) ((c3 _ _ (by omega)).trans f6) (fun j hj hj2 => by rw [c4]; exact (f1.1 j hj2).2)
  have e3 : inb (nI u'.length) 360 = true := x_in (by omega) (by omega)
  have e4 : (nI u'.length).toNatClampNeg = u'.length := x_cl (by omega)
  have cs : ∀ x i, ¬ (x = c ∧ i = 8) → h'.1 x i = h1.1 x i := fun x i hx => by
    rw [q2]; exact rI_n (by omega)
  have ch : Ch [2, 3] c h h' := fun x i hx => by
    have x16 : x ≠ c + 16 := fun hh => hx (by rw [hh, rg_16]; simp)
    refine ⟨(cs x i (fun hh => hx ?_)).trans (c3 x i x16), by rw [q3, c4], ?_⟩
    · rw [hh.1, hh.2, rg_c8]; simp
    · rw [q4]
      by_cases hxa : x = c + 15
      · exfalso; apply hx; rw [hxa, rg_15]; simp
      · rw [if_neg hxa, c4]
  refine ⟨h', ?_, ?_, ?_, ch⟩
  · rw [← l1]
    simp only [f10_land, e3, e4, x_gd, m3, x_ob (kc.2.1 _ m2), c1, x_bp]; exact q1
  · refine ⟨v1.kp ch (by simp) (by simp), now_kp v2 ch (by simp), dn_kp v3 ch (by simp), v4.kp ch (by simp), ⟨_, u' ++ w', f1.del ?_ (fun j hj => ?_) (fun j hj => ?_), a1.app a3⟩, v6.kp ch (by simp), v7.kp ch (by simp), v8.kp ch (by simp), v9.kp ch (by simp), v10.kp ch (by simp)⟩
    · rw [q2, rI_e, show u'.length + w'.length + 1 - 1 = u'.length + w'.length by omega]
    · rw [q4, if_pos rfl, show u'.length + w'.length + 1 - 1 = u'.length + w'.length by omega, c4]
      by_cases c1 : j < u'.length
      · rw [if_pos c1, if_pos c1]; exact (f1.1 j hj).2
      · rw [if_neg c1, if_neg c1]
        by_cases c2 : j < u'.length + w'.length
        · rw [if_pos c2, if_pos c2]
        · rw [if_neg c2, if_neg c2]
          by_cases c3 : j = u'.length + w'.length
          · rw [if_pos c3, if_pos c3]
          · rw [if_neg c3, if_neg c3]; exact (f1.1 j hj).2
    · unfold rwo
      refine Prod.ext (funext fun i => ?_) ?_
      · show h'.1 _ i = _
        rw [cs _ _ (by omega), c3 _ _ (by omega)]
      · show h'.2.1 _ = _; rw [q3, c4]
  · have m5 : ∀ i, i < 14 → h'.1 (c + 16) i = a.1 i := fun i hi => by
      rw [cs _ _ (by omega), c2 i hi]
      rw [← m4]; rfl
    refine ⟨?_, ?_, ?_, ?_⟩
    · exact agP_tr a2.1 (fun i i1 _ _ _ => m5 i i1)
    · exact (m5 1 (by omega)).trans a2.2.1
    · exact (m5 2 (by omega)).trans a2.2.2.1
    · exact (m5 3 (by omega)).trans a2.2.2.2
end CClose
