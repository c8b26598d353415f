/-! fits: the pieces, on both sides -/
section Fits
variable {K1 K2 : Ly} {n x m o j kb : Nat} {h1 h2 : Hp} {N : Nat → Nat} {aw : Int32} {st : St} {R : Nat → Int32}
theorem vMN.kq {R : List Nat} {h2' : Hp} (v : vMN m h2 N j) (q : ChM R m h2 h2') (hd : dj [6, 122, 123, 124] R = true) : vMN m h2' N j :=
  ⟨v.1, by rw [q.f (dj_n hd (by simp))]; exact v.2.1, by rw [q.f (dj_n hd (by simp))]; exact v.2.2.1, by rw [q.f (dj_n hd (by simp))]; exact v.2.2.2.1, fun i hi => by rw [q.a (by omega) (dj_n hd (by simp))]; exact v.2.2.2.2 i hi⟩
theorem vML.kq {R : List Nat} {h2' : Hp} {q : Nat} {L : Nat → Int32} (v : vML m h2 q L j) (ch : ChM R m h2 h2') (hd : dj [8, 181] R = true) : vML m h2' q L j :=
  ⟨v.1, by rw [ch.f (dj_n hd (by simp))]; exact v.2.1, by rw [ch.a (by omega) (dj_n hd (by simp))]; exact v.2.2.1, fun i h1 h2 => by rw [ch.a (by omega) (dj_n hd (by simp))]; exact v.2.2.2 i h1 h2⟩
/-- as c_got, where the class has written behind its run -/
theorem c_gotX {r q y k : Nat} {h' : Hp} (kc : KC K1 (x + 210)) (vr : vR r h1 q R) (hr : r + 4 ≤ x + 210) (hq : q ≤ 40) (hy : y ≤ q) (hk : k < 60) (V : WW K1 (x + 210) h1 o m h2 j N aw kb st) (hB : ∀ k', s_B st k' 8 = 1 ↔ (k' < y ∧ isA R k')) (e : ∀ a i, a < x + 1037 → h'.1 a i = h1.1 a i) (e2 : h'.2 = h1.2) : f0_got K1 n x r (nI k) (nI y) h' = some (if gN st k = true then 1 else 0) := by
  obtain ⟨⟨vc, vm, I⟩, dk⟩ := id V
  obtain ⟨v1, v2, v3, v4, v5, v6, v7, v8, v9, v10⟩ := id vc
  have vr' : vR r h' q R := vr.kq (fun a k _ _ => e a k (by omega))
  have er : h'.2.2 = h1.2.2 := by rw [e2]
  unfold f0_got
  by_cases h0 : k < y
  · rw [if_neg (nI_ge h0 (by omega))]
    by_cases hA : isA R k
    · have hb := (hB k).mpr ⟨h0, hA⟩
      have eg : gN st k = decide (s_B st k 0 = 1) := by simp [gN, hb]
      rw [c_asks vr' hq (by omega) hA, x_bp, if_neg b_10, x_in (by omega) (by omega), x_gd, x_cl (by omega), er, (v9 k hk).1, x_ob (kc.2.2.2 k hk), e _ _ (by omega), (v9 k hk).2 0 (by omega), eg]
      simp only [decide_eq_true_eq]
    · have eg : gN st k = false := by simp [gN]; exact fun hh => absurd ((hB k).mp hh).2 hA
      rw [c_asksNo vr' hq (by omega) hA, x_bp, if_pos rfl, eg, if_neg (by decide)]
  · have eg : gN st k = false := by simp [gN]; exact fun hh => absurd ((hB k).mp hh).1 h0
    rw [if_pos (nI_le (by omega) (by omega)), eg, if_neg (by decide)]
theorem both_agrees {r q y l lq jl : Nat} {L : Nat → Int32} (kc : KC K1 (x + 210)) (hn : 5000 ≤ n) (vr : vR r h1 q R) (hq : q ≤ 40) (hy : y ≤ q) (V : WW K1 (x + 210) h1 o m h2 j N aw kb st) (hB : ∀ k', s_B st k' 8 = 1 ↔ (k' < y ∧ isA R k')) (vl : vL l h1 lq L) (lk : lOk lq L) (vml : vML m h2 lq L jl) : ∃ b : Bool, f0_agrees K1 n x r l (nI y) h1 = some (if b = true then 1 else 0) ∧ f11_isSo K2 n m h2 = some (if b = true then 1 else 0) := by
  have l8 := lk.1
  have v9 := V.1.1.2.2.2.2.2.2.2.2.1
  have go : ∀ (d i fu fu' : Nat), i + d = lq → d < fu → d < fu' → ∃ b : Bool, f0_agrees_L3 K1 n x r l (nI y) h1 fu (nI i) = some (if b = true then 1 else 0) ∧ f11_isSo_L2 K2 n m h2 fu' (nI i) = some (if b = true then 1 else 0) := by
    intro d
    induction d with
    | zero =>
      intro i fu fu' hi hf hf'
      obtain ⟨fu, rfl⟩ : ∃ g, fu = g + 1 := ⟨fu - 1, by omega⟩
      obtain ⟨fu', rfl⟩ : ∃ g, fu' = g + 1 := ⟨fu' - 1, by omega⟩
      have e1 : nI lq ≤ nI i := nI_le (by omega) (by omega)
      exact ⟨true, by rw [f0_agrees_L3, vl.1, if_pos e1]; rfl, by rw [f11_isSo_L2, m_facts vml, x_bp, if_pos e1]; rfl⟩
    | succ d ih =>
      intro i fu fu' hi hf hf'
      obtain ⟨fu, rfl⟩ : ∃ g, fu = g + 1 := ⟨fu - 1, by omega⟩
      obtain ⟨fu', rfl⟩ : ∃ g, fu' = g + 1 := ⟨fu' - 1, by omega⟩
      have e1 : ¬ nI lq ≤ nI i := nI_ge (by omega) (by omega)
      obtain ⟨w1, w2⟩ := vl.2 i (by omega)
      obtain ⟨⟨z, hz, e3⟩, e4⟩ := lk.2 i (by omega)
      have f0 : f11_factOf K2 n m (nI i) (0 : Int32) h2 = some (nI z) := by
        have := m_factOf (K2 := K2) (n := n) vml (k := i) (w := 0) (by omega)
        rw [Nat.add_zero, e3] at this
        exact this
      have f1 : f11_factOf K2 n m (nI i) (1 : Int32) h2 = some (L (2 + 2 * i)) := by
        have := m_factOf (K2 := K2) (n := n) vml (k := i) (w := 1) (by omega)
        rw [show 1 + 2 * i + 1 = 2 + 2 * i by omega] at this
        exact this
      have i1 : inb (nI i) 8 = true := x_in (by omega) (by omega)
      have i2 : (nI i).toNatClampNeg = i := x_cl (by omega)
      have i3 : inb (nI z) 64 = true := x_in (by omega) (by omega)
      have i4 : (nI z).toNatClampNeg = z := x_cl (by omega)
      have i5 : inb (nI z) 60 = true := x_in (by omega) (by omega)
      have cg := c_got (n := n) kc vr hq hy hz V hB
      obtain ⟨t1, t2⟩ := m_got hz V
      obtain ⟨b', r1, r2⟩ := ih (i + 1) fu fu' (by omega) (by omega) (by omega)
      have cs : f0_agrees_L3 K1 n x r l (nI y) h1 (fu + 1) (nI i) = if L (2 + 2 * i) = (-1 : Int32) then f0_agrees_J88 K1 n (f0_agrees_L3 K1 n x r l (nI y) h1 fu) x r l (nI y) (nI i) (if (if gN st z = true then (1 : Int32) else 0) = 0 then 1 else 0) h1 else (if (if gN st z = true then (1 : Int32) else 0) = 0 then some 0 else f0_agrees_J88 K1 n (f0_agrees_L3 K1 n x r l (nI y) h1 fu) x r l (nI y) (nI i) (if s_B st z 2 = L (2 + 2 * i) then 1 else 0) h1) := by
        rw [f0_agrees_L3, vl.1, if_neg e1, i1, x_gd, x_lt, i2, w1, e3, cg, x_bp, x_gd, w2, f0_agrees_J87, i5, x_gd, i4, (v9 z hz).1, x_ob (kc.2.2.2 z hz), x_gd, (v9 z hz).2 2 (by omega)]
        rw [show f0_agrees_J88 K1 n (f0_agrees_L3 K1 n x r l (nI y) h1 fu) x r l (nI y) (nI i) 0 h1 = some 0 from by unfold f0_agrees_J88; rw [if_pos rfl]]
      have J0 : f0_agrees_J88 K1 n (f0_agrees_L3 K1 n x r l (nI y) h1 fu) x r l (nI y) (nI i) 0 h1 = some 0 := by
        unfold f0_agrees_J88; rw [if_pos rfl]
      have J1 : f0_agrees_J88 K1 n (f0_agrees_L3 K1 n x r l (nI y) h1 fu) x r l (nI y) (nI i) 1 h1 = some (if b' = true then 1 else 0) := by
        unfold f0_agrees_J88; rw [if_neg b_10, x_lt, nI_1, r1]
      have ms : f11_isSo_L2 K2 n m h2 (fu' + 1) (nI i) = if (if gN st z = true then s_B st z 2 else (-1 : Int32)) = L (2 + 2 * i) then some (if b' = true then 1 else 0) else some 0 := by
        rw [f11_isSo_L2, m_facts vml, x_bp, if_neg e1, f0, x_bp, i3, x_gd, x_gd, i4]
        by_cases hg : gN st z = true
        · rw [if_pos (t1.mpr hg), (t2 hg).1, if_pos hg, f11_isSo_J37, f1, x_bp, x_lt, nI_1, r2]
        · rw [if_neg (fun hh => hg (t1.mp hh)), if_neg hg, f11_isSo_J37, f1, x_bp, x_lt, nI_1, r2]
      rw [cs, ms]
      by_cases hm : L (2 + 2 * i) = (-1 : Int32)
      · rw [if_pos hm]
        by_cases hg : gN st z = true
        · obtain ⟨a, b, p1, p2, p3, p4, p5⟩ := gG V hg
          have ne : ¬ s_B st z 2 = L (2 + 2 * i) := by
            rw [p4, hm, x_nm1 (by omega)]; exact fun hh => hh
          rw [if_pos hg, if_neg b_10, J0, if_pos hg, if_neg ne]
          exact ⟨false, rfl, rfl⟩
        · rw [if_neg hg, if_pos rfl, J1, if_neg hg, hm, if_pos rfl]
          exact ⟨b', rfl, rfl⟩
      · rw [if_neg hm]
        by_cases hg : gN st z = true
        · rw [if_pos hg, if_neg b_10, if_pos hg]
          by_cases hc : s_B st z 2 = L (2 + 2 * i)
          · rw [if_pos hc, if_pos hc, J1]
            exact ⟨b', rfl, rfl⟩
          · rw [if_neg hc, if_neg hc, J0]
            exact ⟨false, rfl, rfl⟩
        · rw [if_neg hg, if_pos rfl, if_neg hg, if_neg (fun hh => hm hh.symm)]
          exact ⟨false, rfl, rfl⟩
  exact go lq 0 n n (by omega) (by omega) (by omega)
theorem c_noteGot {r q y : Nat} {h0 : Hp} (kc : KC K1 (x + 210)) (hn : 5000 ≤ n) (vr : vR r h1 q R) (hr : r + 4 ≤ x + 210) (hq : q ≤ 40) (hy : y ≤ q) (V : WW K1 (x + 210) h1 o m h2 j N aw kb st) (hB : ∀ k', s_B st k' 8 = 1 ↔ (k' < y ∧ isA R k')) (e : ∀ a i, a < x + 1037 → h0.1 a i = h1.1 a i) (e2 : h0.2 = h1.2) : ∃ h', f0_noteGot K1 n x r (nI y) h0 = some h' ∧ h'.2 = h0.2 ∧ (∀ a k, a ≠ x + 1039 → h'.1 a k = h0.1 a k) ∧ ∀ k, k < 40 → h'.1 (x + 1039) k = h0.1 (x + 1039) k + (if gN st k = true then 1 else 0) := by
  have go : ∀ (d i fu : Nat) (h : Hp), i + d = y → d < fu → (∀ a i, a < x + 1037 → h.1 a i = h1.1 a i) → h.2 = h1.2 → ∃ h', f0_noteGot_L2 K1 n x r (nI y) fu (nI i) h = some h' ∧ h'.2 = h.2 ∧ (∀ a k, a ≠ x + 1039 → h'.1 a k = h.1 a k) ∧ (∀ k, k < i → h'.1 (x + 1039) k = h.1 (x + 1039) k) ∧ ∀ k, i ≤ k → k < 40 → h'.1 (x + 1039) k = h.1 (x + 1039) k + (if gN st k = true then 1 else 0) := by
    intro d
    induction d with
    | zero =>
      intro i fu h hi hf e e2
      obtain ⟨fu, rfl⟩ : ∃ g, fu = g + 1 := ⟨fu - 1, by omega⟩
      have e1 : nI y ≤ nI i := nI_le (by omega) (by omega)
      refine ⟨h, by rw [f0_noteGot_L2, if_pos e1], rfl, fun _ _ _ => rfl, fun _ _ => rfl, fun k h1 h2 => ?_⟩
      have eg : gN st k = false := by simp [gN]; exact fun hh => absurd ((hB k).mp hh).1 (by omega)
      rw [eg, if_neg (by decide), Int32.add_zero]
    | succ d ih =>
      intro i fu h hi hf e e2
      obtain ⟨fu, rfl⟩ : ∃ g, fu = g + 1 := ⟨fu - 1, by omega⟩
      have e1 : ¬ nI y ≤ nI i := nI_ge (by omega) (by omega)
      have cg := c_gotX (n := n) kc vr hr hq hy (show i < 60 by omega) V hB e e2
      by_cases hg : gN st i = true
      · obtain ⟨h', q1, q2, q3, q4, q5⟩ := ih (i + 1) fu (sI h (x + 1039) i (h.1 (x + 1039) i + 1)) (by omega) (by omega) (fun a k ha => by rw [rI_n (by omega)]; exact e a k ha) e2
        refine ⟨h', ?_, q2, fun a k ha => by rw [q3 a k ha, rI_n (by omega)], fun k hk => by rw [q4 k (by omega), rI_n (by omega)], fun k h1 h2 => ?_⟩
        · rw [f0_noteGot_L2, if_neg e1, cg, x_bp, if_pos hg, if_neg b_10, x_in (show i < 40 by omega) (by omega), x_gd, x_gd, x_lt, x_lt, nI_1, x_cl (by omega)]
          exact q1
        · by_cases hk : k = i
          · subst hk; rw [q4 k (by omega), rI_e, if_pos hg]
          · rw [q5 k (by omega) h2, rI_n (by omega)]
      · obtain ⟨h', q1, q2, q3, q4, q5⟩ := ih (i + 1) fu h (by omega) (by omega) e e2
        refine ⟨h', ?_, q2, q3, fun k hk => q4 k (by omega), fun k h1 h2 => ?_⟩
        · rw [f0_noteGot_L2, if_neg e1, cg, x_bp, if_neg hg, if_pos rfl, x_lt, nI_1]
          exact q1
        · by_cases hk : k = i
          · subst hk; rw [q4 k (by omega), if_neg hg, Int32.add_zero]
          · exact q5 k (by omega) h2
  obtain ⟨h', q1, q2, q3, q4, q5⟩ := go y 0 n h0 (by omega) (by omega) e e2
  exact ⟨h', q1, q2, q3, fun k hk => q5 k (by omega) hk⟩
theorem m_noteFit {av kk : Int32} (hn : 5000 ≤ n) (V : WW K1 (x + 210) h1 o m h2 j N aw kb st) : ∃ h', f11_noteFit K2 n m av kk h2 = some h' ∧ h'.1 m 83 = (if h2.1 m 82 = kk then av else h2.1 m 83) ∧ h'.1 m 82 = h2.1 m 82 + 1 ∧ (∀ k, k < 40 → h'.1 (m + 51) k = h2.1 (m + 51) k + (if gN st k = true then 1 else 0)) ∧ ChM [51, 182, 183] m h2 h' := by
  have go : ∀ (d i fu : Nat) (h : Hp), i + d = 40 → d < fu → (∀ k, k < 60 → (h.1 (m + 40) k = 1 ↔ gN st k = true)) → ∃ h', f11_noteFit_L32 K2 n m fu (nI i) h = some h' ∧ ChM [51] m h h' ∧ (∀ k, k < i → h'.1 (m + 51) k = h.1 (m + 51) k) ∧ ∀ k, i ≤ k → k < 40 → h'.1 (m + 51) k = h.1 (m + 51) k + (if gN st k = true then 1 else 0) := by
    intro d
    induction d with
    | zero =>
      intro i fu h hi hf e
      obtain ⟨fu, rfl⟩ : ∃ g, fu = g + 1 := ⟨fu - 1, by omega⟩
      have e1 : (40 : Int32) ≤ nI i := by rw [l_40]; exact nI_le (by omega) (by omega)
      exact ⟨h, by rw [f11_noteFit_L32, if_pos e1], ChM.rf, fun _ _ => rfl, fun k h1 h2 => by omega⟩
    | succ d ih =>
      intro i fu h hi hf e
      obtain ⟨fu, rfl⟩ : ∃ g, fu = g + 1 := ⟨fu - 1, by omega⟩
      have e1 : ¬ (40 : Int32) ≤ nI i := by rw [l_40]; exact nI_ge (by omega) (by omega)
      have ch : ChM [51] m h (sI h (m + 51) i (h.1 (m + 51) i + (if gN st i = true then 1 else 0))) := ChM.A (by omega) (by simp) ChM.rf
      obtain ⟨h', q1, q2, q3, q4⟩ := ih (i + 1) fu (sI h (m + 51) i (h.1 (m + 51) i + (if gN st i = true then 1 else 0))) (by omega) (by omega) (fun k hk => by rw [rI_n (by omega)]; exact e k hk)
      have ee : (if h.1 (m + 40) i = (1 : Int32) then (1 : Int32) else 0) = if gN st i = true then 1 else 0 := by
        by_cases hg : gN st i = true
        · rw [if_pos ((e i (by omega)).mpr hg), if_pos hg]
        · rw [if_neg (fun hh => hg ((e i (by omega)).mp hh)), if_neg hg]
      refine ⟨h', ?_, ch.tr q2, fun k hk => by rw [q3 k (by omega), rI_n (by omega)], fun k h1 h2 => ?_⟩
      · rw [f11_noteFit_L32, if_neg e1, x_in (show i < 40 by omega) (by omega), x_gd, x_in (show i < 64 by omega) (by omega), x_gd, f11_noteFit_J60, x_in (show i < 40 by omega) (by omega), x_gd, x_lt, x_lt, nI_1, x_cl (by omega), ee]
        exact q1
      · by_cases hk : k = i
        · subst hk; rw [q3 k (by omega), rI_e]
        · rw [q4 k (by omega) h2, rI_n (by omega)]
  have e0 : ∀ k, k < 60 → ((sI (sI h2 m 83 (if h2.1 m 82 = kk then av else h2.1 m 83)) m 82 (h2.1 m 82 + 1)).1 (m + 40) k = 1 ↔ gN st k = true) := fun k hk => by
    rw [rI_n (by omega), rI_n (by omega)]; exact (m_got hk V).1
  obtain ⟨h', q1, q2, q3, q4⟩ := go 40 0 n _ (by omega) (by omega) e0
  have ch : ChM [51, 182, 183] m h2 (sI (sI h2 m 83 (if h2.1 m 82 = kk then av else h2.1 m 83)) m 82 (h2.1 m 82 + 1)) := ChM.F (by simp) (ChM.F (by simp) ChM.rf)
  refine ⟨h', ?_, ?_, ?_, fun k hk => ?_, ch.tr (q2.up (by decide))⟩
  · unfold f11_noteFit f11_noteFit_J17
    rw [x_lt, x_lt, rI_n (by omega)]
    exact q1
  · rw [q2.f (by simp), rI_n (by omega), rI_e]
  · rw [q2.f (by simp), rI_e]
  · rw [q4 k (by omega) hk, rI_n (by omega), rI_n (by omega)]
/-- which ask tells most -/
theorem both_telling {r q jr f : Nat} (hn : 5000 ≤ n) (ro : rOk q R) (vr : vR r h1 q R) (vmr : vMR m h2 q R jr) (hf16 : f ≤ 16) (h82 : h2.1 m 82 = nI f) (hs : ∀ k, k < 40 → ∃ s, s ≤ f ∧ h1.1 (x + 1039) k = nI s ∧ h2.1 (m + 51) k = nI s) : ∃ w, f0_tellingAsk K1 n x r (nI f) h1 = some w ∧ f11_askWhat K2 n m h2 = some w := by
  have hq := ro.1
  have go : ∀ (d k fu fu' : Nat) (b : Option Nat) (lc lm : Nat), k + d = q → d < fu → d < fu' → (∀ z, b = some z → z < 40) → lm ≤ 1000000 → (b = none → lm = 1000000) → ((∃ z, b = some z) → lc = lm) → lc ≤ 1000000 → ∃ w, f0_tellingAsk_L8 K1 n x r (nI f) h1 fu (oI b) (nI lc) (nI k) = some w ∧ f11_askWhat_L8 K2 n m h2 fu' (oI b) (nI lm) (nI k) = some w := by
    intro d
    induction d with
    | zero =>
      intro k fu fu' b lc lm hk hfu hfu' hb h1 h2' h3 h4
      obtain ⟨fu, rfl⟩ : ∃ g, fu = g + 1 := ⟨fu - 1, by omega⟩
      obtain ⟨fu', rfl⟩ : ∃ g, fu' = g + 1 := ⟨fu' - 1, by omega⟩
      have e1 : nI q ≤ nI k := nI_le (by omega) (by omega)
      exact ⟨oI b, by rw [f0_tellingAsk_L8, vr.1, if_pos e1], by rw [f11_askWhat_L8, m_deeds vmr, x_bp, if_pos e1]⟩
    | succ d ih =>
      intro k fu fu' b lc lm hk hfu hfu' hb hl1 hl2 hl3 hl4
      obtain ⟨fu, rfl⟩ : ∃ g, fu = g + 1 := ⟨fu - 1, by omega⟩
      obtain ⟨fu', rfl⟩ : ∃ g, fu' = g + 1 := ⟨fu' - 1, by omega⟩
      have e1 : ¬ nI q ≤ nI k := nI_ge (by omega) (by omega)
      by_cases hf0 : f = 0
      · subst hf0
        have e2 : nI 0 ≤ (0 : Int32) := by decide
        exact ⟨oI b, by rw [f0_tellingAsk_L8, vr.1, if_neg e1, if_pos e2], by rw [f11_askWhat_L8, m_deeds vmr, x_bp, if_neg e1, h82, if_pos e2]⟩
      have e2 : ¬ nI f ≤ 0 := nI_nle (by omega) (by omega)
      obtain ⟨s, s1, s2, s3⟩ := hs k (by omega)
      have i1 : inb (nI k) 40 = true := x_in (by omega) (by omega)
      have i2 : (nI k).toNatClampNeg = k := x_cl (by omega)
      have es : nI f - nI s = nI (f - s) := pk_sub s1
      have g1 : jmax (nI s) (nI (f - s)) = nI (max s (f - s)) := by
        unfold jmax
        simp only [x_lt' (show s < 2147483648 by omega) (show f - s < 2147483648 by omega)]
        by_cases hc : s < f - s
        · rw [if_pos hc]; congr 1; omega
        · rw [if_neg hc]; congr 1; omega
      have g2 : f11_greater (nI s) (nI (f - s)) = nI (max s (f - s)) := by
        unfold f11_greater
        simp only [x_le (show s < 2147483648 by omega) (show f - s < 2147483648 by omega)]
        by_cases hc : s ≤ f - s
        · rw [if_pos hc]; congr 1; omega
        · rw [if_neg hc]; congr 1; omega
      have dd : f11_deedOf K2 n m (nI k) (0 : Int32) h2 = some (R (1 + 3 * k)) := m_deedOf vmr (k := k) (w := 0) (by omega)
      have kA : (isA R k ∧ ¬ (1 : Int32) < R (1 + 3 * k)) ∨ (¬ isA R k ∧ (1 : Int32) < R (1 + 3 * k)) := by
        rcases ro.2 k (by omega) with ⟨hh, -⟩ | ⟨hh, -⟩ | ⟨hh, -⟩
        · refine Or.inl ⟨hh, ?_⟩
          rcases hh with hh | hh <;> rw [hh] <;> decide
        · refine Or.inr ⟨?_, by rw [hh]; decide⟩
          unfold isA; rw [hh]; decide
        · refine Or.inr ⟨?_, ?_⟩
          · unfold isA; rcases hh with hh | hh <;> rw [hh] <;> decide
          · rcases hh with hh | hh <;> rw [hh] <;> decide
      have cs : ∀ ya, f3_asks K1 n r (nI k) h1 = some ya → f0_tellingAsk_L8 K1 n x r (nI f) h1 (fu + 1) (oI b) (nI lc) (nI k) = f0_tellingAsk_L8 K1 n x r (nI f) h1 fu (if ya = 0 then oI b else (if oI b = (-1 : Int32) then nI k else (if nI lc ≤ nI (max s (f - s)) then oI b else nI k))) (if ya = 0 then nI lc else (if oI b = (-1 : Int32) then nI (max s (f - s)) else (if nI lc ≤ nI (max s (f - s)) then nI lc else nI (max s (f - s))))) (nI (k + 1)) := fun ya hy => by
        rw [f0_tellingAsk_L8, vr.1, if_neg e1, if_neg e2, i1, x_gd, x_gd, i2, s2, es, g1, x_lt, hy, x_bp, x_lt, nI_1]
      have ms : f11_askWhat_L8 K2 n m h2 (fu' + 1) (oI b) (nI lm) (nI k) = f11_askWhat_L8 K2 n m h2 fu' (if (1 : Int32) < R (1 + 3 * k) then oI b else (if nI lm ≤ nI (max s (f - s)) then oI b else nI k)) (if (1 : Int32) < R (1 + 3 * k) then nI lm else (if nI lm ≤ nI (max s (f - s)) then nI lm else nI (max s (f - s)))) (nI (k + 1)) := by
        rw [f11_askWhat_L8, m_deeds vmr, x_bp, if_neg e1, h82, if_neg e2, i1, x_gd, x_gd, i2, s3, es, g2, x_lt, dd, x_bp, x_lt, nI_1]
      rcases kA with ⟨hA, h1R⟩ | ⟨hA, h1R⟩
      · rw [cs 1 (c_asks vr hq (by omega) hA), ms, if_neg b_10, if_neg b_10, if_neg h1R, if_neg h1R]
        simp only [x_le (show lm < 2147483648 by omega) (show max s (f - s) < 2147483648 by omega), x_le (show lc < 2147483648 by omega) (show max s (f - s) < 2147483648 by omega)]
        cases b with
        | none =>
          have hm := hl2 rfl
          rw [if_pos oI_none, if_pos oI_none, if_neg (show ¬ lm ≤ max s (f - s) by omega), if_neg (show ¬ lm ≤ max s (f - s) by omega)]
          exact ih (k + 1) fu fu' (some k) _ _ (by omega) (by omega) (by omega) (fun z hz => by cases hz; omega) (by omega) (fun hh => by cases hh) (fun _ => rfl) (by omega)
        | some z =>
          have hz := hb z rfl
          have hm := hl3 ⟨z, rfl⟩
          subst hm
          have nz : ¬ oI (some z) = (-1 : Int32) := by
            show ¬ nI z = (-1 : Int32)
            rw [x_nm1 (by omega)]; exact fun hh => hh
          rw [if_neg nz, if_neg nz]
          by_cases hc : lc ≤ max s (f - s)
          · rw [if_pos hc, if_pos hc]
            exact ih (k + 1) fu fu' (some z) _ _ (by omega) (by omega) (by omega) hb hl1 (fun hh => by cases hh) (fun _ => rfl) hl4
          · rw [if_neg hc, if_neg hc]
            exact ih (k + 1) fu fu' (some k) _ _ (by omega) (by omega) (by omega) (fun z hz => by cases hz; omega) (by omega) (fun hh => by cases hh) (fun _ => rfl) (by omega)
      · rw [cs 0 (c_asksNo vr hq (by omega) hA), ms, if_pos rfl, if_pos rfl, if_pos h1R, if_pos h1R]
        exact ih (k + 1) fu fu' b lc lm (by omega) (by omega) (by omega) hb hl1 hl2 hl3 hl4
  exact go q 0 n n none 0 1000000 (by omega) (by omega) (by omega) (fun z hz => by cases hz) (by omega) (fun _ => rfl) (fun ⟨z, hz⟩ => by cases hz) (by omega)
end Fits
