/-! a message comes, on both sides -/
def RC : List Nat := [1, 2, 3, 4, 5, 6, 7, 8, 9, 11, 12]
section Land
variable {n : Nat} {N : Nat → Nat} {aw : Int32} {kb lo s : Nat} {st : St}
theorem ctake {K : Ly} {c o at' left fu : Nat} {h : Hp} {u w : List Ms} {p : Ms} (ok : nOk N) (kc : KC K c) (hn : 400 ≤ n) (hl : s_F st = u ++ p :: w) (hat : at' = u.length) (I : Inv N kb lo 1 (q_F st (u ++ w))) (hlo : lo ≤ s_n st + 1) (hp : pG N kb lo (s_B st) p) (hd : p 3 = nI (s_n st)) (hfl : left < 400) (v : vC K c h o N aw st) : ∃ h', f10_passMinute_L21 K n c (fu + 1) (nI at') (nI (left + 1)) h = f10_passMinute_L21 K n c fu (nI at') (nI left) h' ∧ vC K c h' o N aw (take N aw (q_F st (u ++ w)) p) ∧ Ch RC c h h' := by
  have b0 := ok.1
  obtain ⟨⟨f, f1, f2⟩, ⟨t, t1, t2⟩, -, hpl⟩ := id hp
  obtain ⟨hk, ⟨nm, m1, m2⟩, hi⟩ := id hpl
  have e1 : (p 1).toNatClampNeg = f := by rw [f2]; exact x_cl (by omega)
  have e2 : (p 2).toNatClampNeg = t := by rw [t2]; exact x_cl (by omega)
  have e4 : (p 4).toNatClampNeg = nm := by rw [m2]; exact x_cl (by omega)
  have IF := I.F
  have IF : (u ++ w).length + cbL (s_L st) + 1 ≤ 360 := IF
  have v5 := v.2.2.2.2.1
  rw [hl] at v5
  obtain ⟨pp, Le, g1, g2⟩ := v5
  obtain ⟨u', a, w', q1, a1, a2, a3⟩ := g2.mid
  have l1 := a1.len
  subst q1
  obtain ⟨r1, r2, r3, r4⟩ := g1.mid
  rw [l1] at r1 r2 r3 r4
  have due : h.1 (c + 24 + 2 * pp u.length) 3 = nI (s_n st) := by
    have : (rwo h (c + 24 + 2 * pp u.length)).1 3 = p 3 := by rw [r4]; exact a2.2.2.2
    exact this.trans hd
  obtain ⟨h10, d1, d2, d3, d4⟩ := cland (n := n) kc hl hn v
  obtain ⟨gp, k1, k2, k3⟩ := id d3
  have k0 : h10.1 (c + 16) 0 = p 0 := gp.1
  have k1 : h10.1 (c + 16) 1 = nI f := k1.trans f2
  have k2 : h10.1 (c + 16) 2 = nI t := k2.trans t2
  have k4 : h10.1 (c + 16) 4 = nI nm := gp.2.1.trans m2
  have i1 : ¬ nI (left + 1) ≤ (0 : Int32) := nI_nle (by omega) (by omega)
  have i2 : inb (nI u.length) 360 = true := x_in (by omega) (by omega)
  have i3 : (nI u.length).toNatClampNeg = u.length := x_cl (by omega)
  subst hat
  have pre : f10_passMinute_L21 K n c (fu + 1) (nI u.length) (nI (left + 1)) h = if p 0 = 1 then bp (f10_takeData K n c h10) fun h13 => f10_passMinute_L21 K n c fu (nI u.length) (nI left) h13 else if p 0 = 2 then bp (f10_takeNack K n c h10) fun h17 => f10_passMinute_L21 K n c fu (nI u.length) (nI left) h17 else bd (f10_isMet K n c (nI t) (nI f) (nI nm) (h10.1 (c + 16) 5) (h10.1 (c + 16) 6) h10) fun y21 h20 =>
    if y21 = 0 then (
    bp (f10_makeEntry K n c (h20.1 (c + 16) 2) (h20.1 (c + 16) 1) (h20.1 (c + 16) 4) (h20.1 (c + 16) 5) (h20.1 (c + 16) 6) h20) fun h24 => f10_passMinute_L21 K n c fu (nI u.length) (nI left) h24)
    else f10_passMinute_L21 K n c fu (nI u.length) (nI left) h20 := by
    simp only [f10_passMinute_L21, if_neg i1, i2, i3, x_gd, r3, x_ob (kc.2.1 _ r2), due, v.2.1, if_true, d1, x_bp, k0, k1, k2, k4, x_lt, x_pre]
  rw [pre]
  unfold take
  dsimp only
  rw [e1, e2, e4]
  by_cases h1 : p 0 = 1
  · obtain ⟨h', s1, s2, s3⟩ := cdata (n := n) (nd := t) (f := f) ok kc (by omega) (by omega) h1 t2 f2 hn (show (u ++ w).length + cbL (s_L st) ≤ 360 by omega) d2 d3
    refine ⟨h', by rw [if_pos h1, s1, x_bp], by rw [if_pos h1]; exact s2, (d4.up (by decide)).tr (s3.up (by decide))⟩
  · rw [if_neg h1, if_neg h1]
    by_cases h2 : p 0 = 2
    · obtain ⟨h', s1, s2, s3⟩ := cnack (n := n) (nd := t) (f := f) (nm := nm) ok kc (by omega) (by omega) m1 h2 t2 f2 m2 hn (show (u ++ w).length + cbL (s_L st) ≤ 360 by omega) (show (u ++ w).length < 360 by omega) d2 d3
      refine ⟨h', by rw [if_pos h2, s1, x_bp], by rw [if_pos h2]; exact s2, (d4.up (by decide)).tr (s3.up (by decide))⟩
    · rw [if_neg h2, if_neg h2]
      have h0 : p 0 = 0 := by
        rcases hk with hk | hk | hk
        · exact hk
        · exact absurd hk h1
        · exact absurd hk h2
      obtain ⟨k, kk1, kk2, kk3, kk4, kk5⟩ := hi h0
      have kb6 := I.1
      have e6 : (p 6).toNatClampNeg = k := by rw [kk2]; exact x_cl (by omega)
      rw [e6]
      have z5 : h10.1 (c + 16) 5 = p 5 := (gp.2.2.1 h0).1
      have z6 : h10.1 (c + 16) 6 = nI k := (gp.2.2.1 h0).2.trans kk2
      rw [z5, z6]
      obtain ⟨y, g, c1, c2, c3⟩ := cmet (n := n) (nd := t) (k := k) (nm := nm) (fr := some f) (ws := p 5) ok kc (by omega) m1 (by omega) (fun f' hh => by cases hh; exact ⟨by omega, show (u ++ w).length < 360 by omega⟩) hn d2
      have c1 : f10_isMet K n c (nI t) (nI f) (nI nm) (p 5) (nI k) h10 = some (y, g) := c1
      rcases c3 with ⟨y0, g0, e, n1, n2⟩ | ⟨y1, wv⟩
      · subst y0; subst g0
        have rm := room ok I (show t < 6 by omega) (by omega) (kk4.trans m2) kk5 n1 n2
        obtain ⟨h', s1, s2, s3⟩ := cmake (n := n) (nd := t) (k := k) (nm := nm) (fr := some f) (ws := p 5) ok kc (by omega) m1 (by omega) (fun f' hh => by cases hh; omega) (show (u ++ w).length < 360 by omega) rm.1 (by omega) d2
        have s1 : f10_makeEntry K n c (nI t) (nI f) (nI nm) (p 5) (nI k) g = some h' := s1
        refine ⟨h', ?_, by rw [e]; exact s2, (d4.up (by decide)).tr (s3.up (by decide))⟩
        rw [c1, x_bd, if_pos rfl, k2, k1, k4, z5, z6, s1, x_bp]
      · subst y1
        exact ⟨g, by rw [c1, x_bd, if_neg (by decide)], wv, (d4.up (by decide)).tr (c2.up (by decide))⟩
theorem cskip {K : Ly} {c o at' left fu : Nat} {h : Hp} {u w : List Ms} {p : Ms} (kc : KC K c) (hl : s_F st = u ++ p :: w) (hat : at' = u.length) (hd : ¬ p 3 = nI (s_n st)) (hfl : left < 400) (v : vC K c h o N aw st) : f10_passMinute_L21 K n c (fu + 1) (nI at') (nI (left + 1)) h = f10_passMinute_L21 K n c fu (nI (at' + 1)) (nI left) h := by
  have v5 := v.2.2.2.2.1
  rw [hl] at v5
  obtain ⟨pp, Le, g1, g2⟩ := v5
  obtain ⟨u', a, w', q1, a1, a2, a3⟩ := g2.mid
  have l1 := a1.len
  subst q1
  obtain ⟨r1, r2, r3, r4⟩ := g1.mid
  rw [l1] at r1 r2 r3 r4
  have due : ¬ h.1 (c + 24 + 2 * pp u.length) 3 = nI (s_n st) := by
    have : (rwo h (c + 24 + 2 * pp u.length)).1 3 = p 3 := by rw [r4]; exact a2.2.2.2
    intro hh; exact hd (this.symm.trans hh)
  have i1 : ¬ nI (left + 1) ≤ (0 : Int32) := nI_nle (by omega) (by omega)
  have i2 : inb (nI u.length) 360 = true := x_in (by omega) (by omega)
  have i3 : (nI u.length).toNatClampNeg = u.length := x_cl (by omega)
  subst hat
  simp only [f10_passMinute_L21, if_neg i1, i2, i3, x_gd, r3, x_ob (kc.2.1 _ r2), v.2.1, if_neg due, x_lt, x_pre, nI_1]
theorem mcomes {K : Ly} {m j i : Nat} {h : Hp} {W : List Ms} {p : Ms} (ok : nOk N) (hn : 400 ≤ n) (hi : W[i]? = some p) (hi2 : i < 4096) (I : Inv N kb lo 1 st) (hp : pG N kb lo (s_B st) p) (v : vM m h j N aw st W) : ∃ h' X, f11_comes K n m (nI i) h = some h' ∧ vM m h' j N aw (take N aw st p) (W ++ X) ∧ s_F (take N aw st p) = s_F st ++ X ∧ ChM RX m h h' := by
  have b0 := ok.1
  obtain ⟨⟨f, f1, f2⟩, ⟨t, t1, t2⟩, -, hpl⟩ := id hp
  obtain ⟨hk, ⟨nm, m1, m2⟩, hii⟩ := id hpl
  have e1 : (p 1).toNatClampNeg = f := by rw [f2]; exact x_cl (by omega)
  have e2 : (p 2).toNatClampNeg = t := by rw [t2]; exact x_cl (by omega)
  have e4 : (p 4).toNatClampNeg = nm := by rw [m2]; exact x_cl (by omega)
  have IF := I.F
  obtain ⟨w1, w2, w3, w4, w5, w6, w7, w8⟩ := v.2.2.2.2.1.2.2 i p hi
  have g1 : inb (nI i) 4096 = true := x_in (by omega) (by omega)
  have g2 : (nI i).toNatClampNeg = i := x_cl (by omega)
  obtain ⟨h8, eh⟩ : ∃ h8, h8 = sI (sI (sI (sI h m 71 (h.1 (m + 36) i)) m 72 (h.1 (m + 37) i)) m 73 (h.1 (m + 38) i)) m 74 (h.1 (m + 39) i) := ⟨_, rfl⟩
  have ch8 : ChM [171, 172, 173, 174] m h h8 := by
    rw [eh]; exact ChM.F (by simp) (ChM.F (by simp) (ChM.F (by simp) (ChM.F (by simp) ChM.rf)))
  have vv := v.kp ch8 (by decide)
  have q8 : mvQ m h8 p := by
    refine ⟨fun hh => ?_, fun hh => ?_⟩
    · obtain ⟨z1, z2, z3, z4⟩ := w7 hh
      rw [eh]
      simp (disch := omega) only [rI_n, rI_e]
      exact ⟨z1, z2, z3, z4⟩
    · obtain ⟨-, z1, z2, z3⟩ := w8 hh
      rw [eh]
      simp (disch := omega) only [rI_n, rI_e]
      exact ⟨z1, z2, z3⟩
  have y0 : h8.1 (m + 29) i = p 0 := (ch8.a (by omega) (by simp) _).trans w1
  have y1 : h8.1 (m + 30) i = nI f := ((ch8.a (by omega) (by simp) _).trans w2).trans f2
  have y2 : h8.1 (m + 31) i = nI t := ((ch8.a (by omega) (by simp) _).trans w3).trans t2
  have y4 : h8.1 (m + 32) i = p 4 := (ch8.a (by omega) (by simp) _).trans w4
  have pre : f11_comes K n m (nI i) h = if p 0 = 0 then bp (f11_interest K n m (nI t) (nI f) (p 4) (h8.1 (m + 33) i) (h8.1 (m + 34) i) h8) fun h17 => some h17 else if p 0 = 1 then bp (f11_dataCome K n m (nI t) (nI f) (p 4) h8) fun h24 => some h24 else bp (f11_nackComes K n m (nI t) (nI f) (p 4) (h8.1 (m + 33) i) h8) fun h30 => some h30 := by
    simp only [f11_comes, g1, g2, x_gd, x_lt]
    have z1 : sI (sI (sI (sI h m 71 (h.1 (m + 36) i)) m 72 ((sI h m 71 (h.1 (m + 36) i)).1 (m + 37) i)) m 73 ((sI (sI h m 71 (h.1 (m + 36) i)) m 72 ((sI h m 71 (h.1 (m + 36) i)).1 (m + 37) i)).1 (m + 38) i)) m 74 ((sI (sI (sI h m 71 (h.1 (m + 36) i)) m 72 ((sI h m 71 (h.1 (m + 36) i)).1 (m + 37) i)) m 73 ((sI (sI h m 71 (h.1 (m + 36) i)) m 72 ((sI h m 71 (h.1 (m + 36) i)).1 (m + 37) i)).1 (m + 38) i)).1 (m + 39) i) = h8 := by
      rw [eh]
      simp (disch := omega) only [rI_n]
    rw [z1, y0, y1, y2, y4]
  rw [pre]
  unfold take
  dsimp only
  rw [e1, e2, e4]
  by_cases h1 : p 0 = 1
  · obtain ⟨h', X, s1, s2, s3, s4⟩ := mdata (K := K) (n := n) (nd := t) (f := f) ok (by omega) (by omega) h1 hn (I.2.2.2.2.2.2.1 t (by omega)) (fun e he => (I.e e he).2) (by omega) vv q8
    refine ⟨h', X, ?_, by rw [if_pos h1]; exact s2, by rw [if_pos h1]; exact s3, (ch8.up (by decide)).tr s4⟩
    rw [if_neg (by rw [h1]; decide), if_pos h1, s1, x_bp]
  · rw [if_neg h1, if_neg h1]
    by_cases h2 : p 0 = 2
    · have y5 : h8.1 (m + 33) i = p 5 := (ch8.a (by omega) (by simp) _).trans (w8 h2).1
      obtain ⟨h', X, s1, s2, s3, s4⟩ := mnack (K := K) (n := n) (nd := t) (f := f) (nm := nm) ok I.2.2.2.2.1 (by omega) (by omega) m1 h2 m2 hn (fun e he => (I.e e he).2) (by omega) (by omega) vv q8
      refine ⟨h', X, ?_, by rw [if_pos h2]; exact s2, by rw [if_pos h2]; exact s3, (ch8.up (by decide)).tr s4⟩
      rw [if_neg (by rw [h2]; decide), y5, s1, x_bp]
    · rw [if_neg h2]
      have h0 : p 0 = 0 := by
        rcases hk with hk | hk | hk
        · exact hk
        · exact absurd hk h1
        · exact absurd hk h2
      obtain ⟨k, kk1, kk2, kk3, kk4, kk5⟩ := hii h0
      have kb6 := I.1
      have e6 : (p 6).toNatClampNeg = k := by rw [kk2]; exact x_cl (by omega)
      rw [e6]
      have y5 : h8.1 (m + 33) i = p 5 := (ch8.a (by omega) (by simp) _).trans (w6 h0).1
      have y6 : h8.1 (m + 34) i = nI k := ((ch8.a (by omega) (by simp) _).trans (w6 h0).2).trans kk2
      obtain ⟨h', X, s1, s2, s3, s4⟩ := mint (K := K) (n := n) (nd := t) (k := k) (nm := nm) (fr := some f) (ws := p 5) ok I.2.2.2.2.1 (by omega) m1 (by omega) (fun f' hh => by cases hh; omega) (by omega) (I.2.2.2.2.2.2.1 t (by omega)) (fun n1 n2 => by
        have := (room ok I (show t < 6 by omega) (by omega) (kk4.trans m2) kk5 n1 n2).2.1
        omega) (fun hh => by cases hh) (by omega) vv
      have s1 : f11_interest K n m (nI t) (nI f) (nI nm) (p 5) (nI k) h8 = some h' := s1
      refine ⟨h', X, ?_, s2, s3, (ch8.up (by decide)).tr s4⟩
      rw [if_pos h0, y5, y6, m2, s1, x_bp]
end Land
