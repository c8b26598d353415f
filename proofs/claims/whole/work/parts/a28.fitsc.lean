/-! fits: the loop over the links, and the call -/
def awT (t : Nat) : Int32 := if t = 0 then -1 else nI (t - 1)
theorem awT_1 {t : Nat} : awT t + 1 = awT (t + 1) := by
  unfold awT
  rw [if_neg (show ¬ t + 1 = 0 by omega), Nat.add_sub_cancel]
  by_cases h : t = 0
  · rw [if_pos h, h]; rfl
  · rw [if_neg h, nI_1, show t - 1 + 1 = t by omega]
theorem awT_le {t k : Nat} (ht : t < 1000) (hk : k < 1000) : (nI k ≤ awT t) = (k + 1 ≤ t) := by
  unfold awT
  by_cases h : t = 0
  · rw [if_pos h, h]
    refine propext ⟨fun hh => ?_, fun hh => by omega⟩
    exfalso
    have h1 := Int32.le_iff_toInt_le.mp hh
    rw [nI_toInt (by omega)] at h1
    have h2 : Int32.toInt (-1) = -1 := rfl
    omega
  · rw [if_neg h, x_le (by omega) (by omega)]
    exact propext (by omega)
section FitsC
variable {K1 K2 : Ly} {n x m o j : Nat} {h1 h2 : Hp} {N : Nat → Nat} {R L : Nat → Int32} {g : Gh} {a a1 a2 a3 a4 : Int32}
def RFt : List Nat := 51 :: 182 :: 183 :: 11 :: RP
/-- how both sides stand between two links -/
def fS (x m o j r q jr l lq jl f : Nat) (a4 : Int32) (N : Nat → Nat) (R L : Nat → Int32) (h1 h2 : Hp) : Prop :=
  cX (x + 210) h1 ∧ vN o h1 N ∧ vR r h1 q R ∧ vL l h1 lq L ∧ vMN m h2 N j ∧ vMR m h2 q R jr ∧ vML m h2 lq L jl ∧ h2.1 m 82 = nI f ∧ (∀ w, 10 ≤ w → w < 2147483648 → a4 = nI w → h2.1 m 83 = if w - 10 < f then h1.1 (x + 1038) (w - 10) else -2) ∧ ∀ k, k < 40 → ∃ s, s ≤ f ∧ h1.1 (x + 1039) k = nI s ∧ h2.1 (m + 51) k = nI s
theorem both_fitsL {r q jr l lq jl : Nat} (ok : nOk N) (kc : KC K1 (x + 210)) (hn : 5000 ≤ n) (ro : rOk q R) (lk : lOk lq L) (ho : o + 13 ≤ x + 210) (ko : K1 o = some (.inl 2)) (hr : r + 4 ≤ x + 210) (hl : l + 3 ≤ x + 210) : ∀ (d t f fu fu' : Nat) (h1 h2 : Hp), t + d = N 2 + 1 → d < fu → d < fu' → f ≤ t → fS x m o j r q jr l lq jl f a4 N R L h1 h2 → ∃ (f' : Nat) (h1' h2' : Hp), f0_fits_L71 K1 n x a4 o r l fu (nI f) (awT t) h1 = f0_fits_L71 K1 n x a4 o r l 1 (nI f') (awT (N 2 + 1)) h1' ∧ f11_fits_L63 K2 n m a4 fu' (awT t) h2 = f11_fits_L63 K2 n m a4 1 (awT (N 2 + 1)) h2' ∧ f' ≤ N 2 + 1 ∧ fS x m o j r q jr l lq jl f' a4 N R L h1' h2' ∧ (∀ a k, a < x + 210 → h1'.1 a k = h1.1 a k ∧ h1'.2.2 a k = h1.2.2 a k) ∧ ChM RFt m h2 h2' := by
  have b2 := ok.2.2.1
  have hq := ro.1
  have l8 := lk.1
  intro d
  induction d with
  | zero =>
    intro t f fu fu' h1 h2 ht hf hf' hft S
    obtain ⟨fu, rfl⟩ : ∃ g, fu = g + 1 := ⟨fu - 1, by omega⟩
    obtain ⟨fu', rfl⟩ : ∃ g, fu' = g + 1 := ⟨fu' - 1, by omega⟩
    obtain rfl : t = N 2 + 1 := by omega
    obtain ⟨s1, s2, s3, s4, s5, s6, s7, s8, s9, s10⟩ := id S
    have e1 : nI (N 2) ≤ awT (N 2 + 1) := by rw [awT_le (by omega) (by omega)]; omega
    refine ⟨f, h1, h2, ?_, ?_, hft, S, fun _ _ _ => ⟨rfl, rfl⟩, ChM.rf⟩
    · rw [f0_fits_L71, f0_fits_L71, s2.1 2 (by omega), if_pos e1, if_pos e1]
    · rw [f11_fits_L63, f11_fits_L63, mlinks s5, x_bp, x_bp, if_pos e1, if_pos e1]
  | succ d ih =>
    intro t f fu fu' h1 h2 ht hf hf' hft S
    obtain ⟨fu, rfl⟩ : ∃ g, fu = g + 1 := ⟨fu - 1, by omega⟩
    obtain ⟨fu', rfl⟩ : ∃ g, fu' = g + 1 := ⟨fu' - 1, by omega⟩
    obtain ⟨s1, s2, s3, s4, s5, s6, s7, s8, s9, s10⟩ := id S
    have e1 : ¬ nI (N 2) ≤ awT t := by rw [awT_le (by omega) (by omega)]; omega
    obtain ⟨y, p1, g2, p2, st, f1, f2, f3, f4, f5, f6, f7, f8, f9, f10⟩ := both_run (K2 := K2) (n := n) (aw := awT t) ok kc hn ro hr (Nat.le_refl q) s1 ho ko s2 s5 s3 s6
    have vr' : vR r p1 q R := s3.kq (fun a k _ _ => (f8 a k (by omega)).1)
    have vl' : vL l p1 lq L := s4.kq (fun a k _ _ => (f8 a k (by omega)).1)
    have vn' : vN o p1 N := s2.kp (fun a k _ _ => (f8 a k (by omega)).1)
    have vml' : vML m p2 lq L jl := s7.kq f9 (by decide)
    have vmr' : vMR m p2 q R jr := s6.kp f9 (by decide)
    have vmn' : vMN m p2 N j := s5.kq f9 (by decide)
    have dd := m_deeds (K2 := K2) (n := n) (s6.kp f10 (by decide))
    obtain ⟨b, g1, g3⟩ := both_agrees (K1 := K1) (K2 := K2) kc hn vr' hq f4 f5 f6 vl' lk vml'
    have e16 : ¬ (16 : Int32) ≤ nI f := by rw [l_16]; exact nI_ge (by omega) (by omega)
    have h82 : p2.1 m 82 = nI f := by rw [f9.f (by decide)]; exact s8
    have h83 : p2.1 m 83 = h2.1 m 83 := f9.f (by decide)
    have h51 : ∀ k, p2.1 (m + 51) k = h2.1 (m + 51) k := fun k => f9.a (by omega) (by decide) k
    have h38 : ∀ k, p1.1 (x + 1038) k = h1.1 (x + 1038) k := fun k => (f8 _ k (by omega)).1
    have h39 : ∀ k, p1.1 (x + 1039) k = h1.1 (x + 1039) k := fun k => (f8 _ k (by omega)).1
    have cs : f0_fits_L71 K1 n x a4 o r l (fu + 1) (nI f) (awT t) h1 = if (if b = true then (1 : Int32) else 0) = 0 then f0_fits_L71 K1 n x a4 o r l fu (nI f) (awT (t + 1)) p1 else (bp (f0_noteGot K1 n x r (nI y) (sI p1 (x + 1038) f (awT t))) fun h36 => f0_fits_L71 K1 n x a4 o r l fu (nI (f + 1)) (awT (t + 1)) h36) := by
      rw [f0_fits_L71, s2.1 2 (by omega), if_neg e1, s3.1, f1, x_bd, if_neg e16, g1, x_bp, x_lt, awT_1, x_in (show f < 16 by omega) (by omega), x_gd, x_lt, x_lt, nI_1, x_cl (by omega)]
      rfl
    have ms : f11_fits_L63 K2 n m a4 (fu' + 1) (awT t) h2 = if (if b = true then (1 : Int32) else 0) = 0 then f11_fits_L63 K2 n m a4 fu' (awT (t + 1)) p2 else (bp (f11_noteFit K2 n m (awT t) (a4 - (10 : Int32)) p2) fun h36 => f11_fits_L63 K2 n m a4 fu' (awT (t + 1)) h36) := by
      rw [f11_fits_L63, mlinks s5, x_bp, if_neg e1, f2, x_bp, dd, x_bp, f3, x_bd, g3, x_bp, x_lt, awT_1]
      rfl
    rw [cs, ms]
    cases b with
    | false =>
      rw [if_pos (show (if false = true then (1 : Int32) else 0) = 0 by decide), if_pos (show (if false = true then (1 : Int32) else 0) = 0 by decide)]
      have S' : fS x m o j r q jr l lq jl f a4 N R L p1 p2 := ⟨f5.1.1.x, vn', vr', vl', vmn', vmr', vml', h82, fun w w1 w2 w3 => by rw [h83, h38]; exact s9 w w1 w2 w3, fun k hk => by rw [h39, h51]; exact s10 k hk⟩
      obtain ⟨f', k1, k2, q1, q2, q3, q4, q5, q6⟩ := ih (t + 1) f fu fu' p1 p2 (by omega) (by omega) (by omega) (by omega) S'
      exact ⟨f', k1, k2, q1, q2, q3, q4, fun a k ha => ⟨(q5 a k ha).1.trans (f8 a k (by omega)).1, (q5 a k ha).2.trans (f8 a k (by omega)).2.2⟩, (f9.up (by decide)).tr q6⟩
    | true =>
      rw [if_neg (show ¬ (if true = true then (1 : Int32) else 0) = 0 by decide), if_neg (show ¬ (if true = true then (1 : Int32) else 0) = 0 by decide)]
      obtain ⟨k1, u1, u2, u3, u4⟩ := c_noteGot (K1 := K1) (h0 := sI p1 (x + 1038) f (awT t)) kc hn vr' hr hq f4 f5 f6 (fun a i ha => rI_n (by omega)) rfl
      obtain ⟨k2, w1, w2, w3, w4, w5⟩ := m_noteFit (K2 := K2) (av := awT t) (kk := a4 - (10 : Int32)) hn f5
      rw [u1, x_bp, w1, x_bp]
      have S' : fS x m o j r q jr l lq jl (f + 1) a4 N R L k1 k2 := by
        refine ⟨f5.1.1.x.kp1 u2, vn'.kp (fun a k _ _ => by rw [u3 a k (by omega), rI_n (by omega)]), vr'.kq (fun a k _ _ => by rw [u3 a k (by omega), rI_n (by omega)]), vl'.kq (fun a k _ _ => by rw [u3 a k (by omega), rI_n (by omega)]), vmn'.kq w5 (by decide), vmr'.kp w5 (by decide), vml'.kq w5 (by decide), by rw [w3, h82, nI_1], fun w z1 z2 z3 => ?_, fun k hk => ?_⟩
        · have e10 : a4 - (10 : Int32) = nI (w - 10) := by rw [z3, l_10]; exact pk_sub z1
          rw [w2, h82, h83, e10, u3 _ _ (by omega)]
          simp only [x_eq (show f < 2147483648 by omega) (show w - 10 < 2147483648 by omega)]
          have o9 := s9 w z1 z2 z3
          by_cases hc : f = w - 10
          · rw [if_pos hc, if_pos (by omega), ← hc, rI_e]
          · rw [if_neg hc, o9]
            by_cases hd : w - 10 < f
            · rw [if_pos hd, if_pos (by omega), rI_n (by omega), h38]
            · rw [if_neg hd, if_neg (by omega)]
        · obtain ⟨s, z1, z2, z3⟩ := s10 k hk
          rw [u4 k hk, w4 k hk, rI_n (by omega), h39, h51, z2, z3]
          by_cases hg : gN st k = true
          · rw [if_pos hg, nI_1]; exact ⟨s + 1, by omega, rfl, rfl⟩
          · rw [if_neg hg, Int32.add_zero]; exact ⟨s, by omega, rfl, rfl⟩
      obtain ⟨f', j1, j2, q1, q2, q3, q4, q5, q6⟩ := ih (t + 1) (f + 1) fu fu' k1 k2 (by omega) (by omega) (by omega) (by omega) S'
      refine ⟨f', j1, j2, q1, q2, q3, q4, fun a k ha => ⟨(q5 a k ha).1.trans ?_, (q5 a k ha).2.trans ?_⟩, (f9.up (by decide)).tr ((w5.up (by decide)).tr q6)⟩
      · rw [u3 a k (by omega), rI_n (by omega)]; exact (f8 a k (by omega)).1
      · rw [u2]; exact (f8 a k (by omega)).2.2
theorem m_seen0 : ∀ (d i fu : Nat) (h : Hp), i + d = 40 → d < fu → ∃ h', f11_fits_L39 K2 n m a4 fu (nI i) h = f11_fits_L63 K2 n m a4 n (-1) h' ∧ ChM [51] m h h' ∧ (∀ k, k < i → h'.1 (m + 51) k = h.1 (m + 51) k) ∧ ∀ k, i ≤ k → k < 40 → h'.1 (m + 51) k = 0 := by
  intro d
  induction d with
  | zero =>
    intro i fu h hi hf
    obtain ⟨fu, rfl⟩ : ∃ g, fu = g + 1 := ⟨fu - 1, by omega⟩
    have e1 : (40 : Int32) ≤ nI i := by rw [l_40]; exact nI_le (by omega) (by omega)
    exact ⟨h, by rw [f11_fits_L39, if_pos e1], ChM.rf, fun _ _ => rfl, fun k h1 h2 => by omega⟩
  | succ d ih =>
    intro i fu h hi hf
    obtain ⟨fu, rfl⟩ : ∃ g, fu = g + 1 := ⟨fu - 1, by omega⟩
    have e1 : ¬ (40 : Int32) ≤ nI i := by rw [l_40]; exact nI_ge (by omega) (by omega)
    obtain ⟨h', q1, q2, q3, q4⟩ := ih (i + 1) fu (sI h (m + 51) i 0) (by omega) (by omega)
    refine ⟨h', ?_, (ChM.A (by omega) (by simp) ChM.rf).tr q2, fun k hk => by rw [q3 k (by omega), rI_n (by omega)], fun k h1 h2 => ?_⟩
    · rw [f11_fits_L39, if_neg e1, x_in (show i < 40 by omega) (by omega), x_gd, x_lt, x_lt, nI_1, x_cl (by omega)]
      exact q1
    · by_cases hk : k = i
      · subst hk; rw [q3 k (by omega), rI_e]
      · exact q4 k (by omega) h2
theorem both_fits (kx : KX K1 x) (hn : 5000 ≤ n) (v : XX x h1 m h2) : CC x m (f0_fits K1 n x a1 a2 a3 a4 h1) (f11_fits K2 n m a1 a2 a3 a4 h2) := by
  obtain ⟨g, vg⟩ := v.2.2.1
  have tr := v.1 0 (by omega)
  have gk := vg.1
  have c0 := gk.2.1 0 (by omega)
  have c1 := gk.2.1 1 (by omega)
  have c2 := gk.2.1 2 (by omega)
  have ch0 : ChM RL m h2 (sI h2 m 0 0) := ChM.F (by simp [RL]) ChM.rf
  have vm0 := vg.2.2.kp ch0 (by decide)
  have io : ∀ {b : Nat} {c : Nat}, K1 b = some (.inl c) → isO K1 b c = true := fun h => by simp [isO, h]
  have kn : ∀ i, i < 2 → K1 (x + 5 + 13 * i) = some (.inl 2) := fun i hi => by
    have : K1 (x + 1 + 4 + 13 * i) = some (.inl 2) := (kx.2 0 (by omega) i hi).1
    rw [show x + 5 + 13 * i = x + 1 + 4 + 13 * i by omega]; exact this
  have kr : ∀ i, i < 2 → K1 (x + 32 + 4 * i) = some (.inl 3) := fun i hi => by
    have : K1 (x + 1 + 31 + 4 * i) = some (.inl 3) := (kx.2 0 (by omega) i hi).2.1
    rw [show x + 32 + 4 * i = x + 1 + 31 + 4 * i by omega]; exact this
  have kl : ∀ i, i < 2 → K1 (x + 41 + 3 * i) = some (.inl 4) := fun i hi => by
    have : K1 (x + 1 + 40 + 3 * i) = some (.inl 4) := (kx.2 0 (by omega) i hi).2.2
    rw [show x + 41 + 3 * i = x + 1 + 40 + 3 * i by omega]; exact this
  by_cases q3 : isI a3 (g_c g 2)
  · obtain ⟨e, le, rfl⟩ := isI_of (by omega) q3
    obtain ⟨k1, e1, wl, ch1⟩ := m_hasLog (K2 := K2) (n := n) vm0 gk le
    have vm1 := vm0.kp ch1 (by decide)
    by_cases hi : isI a1 (g_c g 0) ∧ isI a2 (g_c g 1)
    · obtain ⟨i, li, rfl⟩ := isI_of (by omega) hi.1
      obtain ⟨r, lr, rfl⟩ := isI_of (by omega) hi.2
      have ok := gk.2.2.1 i li
      have ro := gk.2.2.2.1 r lr
      have lo := gk.2.2.2.2 e le
      have b2 := ok.2.2.1
      obtain ⟨kA, eA, wA, chA⟩ := m_hasRun (K2 := K2) (n := n) vm1 gk lr
      obtain ⟨k2, eB, wn, chB⟩ := m_hasNet (K2 := K2) (n := n) (vm1.kp chA (by decide)) gk li
      have wr := wA.kp chB (by decide)
      have ch2 : ChM RL m k1 k2 := (RR.up chA).tr (RN.up chB)
      have e2 : f11_lay K2 n m (nI i) (nI r) k1 = bp (f11_begin K2 n m (-1 : Int32) k2) fun h => some ((1 : Int32), h) := by
        unfold f11_lay
        rw [eA, x_bd, if_neg b_10, eB, x_bd, if_neg b_10]
      obtain ⟨k3, e3, vm3, ch3⟩ := mbegin (K := K2) (-1) (fun _ _ => 0) ok hn wn
      have ch4 : ChM [182, 183] m k3 (sI (sI k3 m 82 0) m 83 (-2)) := ChM.F (by simp) (ChM.F (by simp) ChM.rf)
      obtain ⟨k5, e5, ch5, -, z5⟩ := m_seen0 (K2 := K2) (n := n) (m := m) (a4 := a4) 40 0 n (sI (sI k3 m 82 0) m 83 (-2)) (by omega) (by omega)
      have vn : vN (x + 5 + 13 * i) h1 (g_N g i) := by
        have := vg.2.1.2.2.2.2.2.1 i li
        rw [show x + 1 + 4 + 13 * i = x + 5 + 13 * i by omega] at this
        exact this
      have vr : vR (x + 32 + 4 * r) h1 (g_q g r) (g_R g r) := by
        have := vg.2.1.2.2.2.2.2.2.1 r lr
        rw [show x + 1 + 31 + 4 * r = x + 32 + 4 * r by omega] at this
        exact this
      have vl : vL (x + 41 + 3 * e) h1 (g_k g e) (g_L g e) := by
        have := vg.2.1.2.2.2.2.2.2.2 e le
        rw [show x + 1 + 40 + 3 * e = x + 41 + 3 * e by omega] at this
        exact this
      obtain ⟨p1, y1, y2, y3, y4⟩ := fillI (K := K1) (n := n) (a := x + 1039) (len := 40) (x := 0) (by omega) 40 0 n h1 (by omega) (by omega)
      have yo : ∀ a k, a ≠ x + 1039 → p1.1 a k = h1.1 a k := fun a k ha => y2 a k (by omega)
      have r82 : k5.1 m 82 = nI 0 := by rw [ch5.f (by decide), rI_n (by omega), rI_e]; rfl
      have r83 : k5.1 m 83 = -2 := by rw [ch5.f (by decide), rI_e]
      have S : fS x m (x + 5 + 13 * i) i (x + 32 + 4 * r) (g_q g r) r (x + 41 + 3 * e) (g_k g e) e 0 a4 (g_N g i) (g_R g r) (g_L g e) p1 k5 := by
        refine ⟨v.2.1.kp1 y4, vn.kp (fun a k _ _ => yo a k (by omega)), vr.kq (fun a k _ _ => yo a k (by omega)), vl.kq (fun a k _ _ => yo a k (by omega)), ((wn.kq ch3 (by decide)).kq ch4 (by decide)).kq ch5 (by decide), ((wr.kp ch3 (by decide)).kp ch4 (by decide)).kp ch5 (by decide), ((((wl.kq chA (by decide)).kq chB (by decide)).kq ch3 (by decide)).kq ch4 (by decide)).kq ch5 (by decide), r82, fun w _ _ _ => by rw [r83, if_neg (by omega)], fun k hk => ⟨0, by omega, y3 k (by omega) hk, z5 k (by omega) hk⟩⟩
      obtain ⟨f, j1, j2, u1, u2, u3, S', u5, u6⟩ := both_fitsL (K1 := K1) (K2 := K2) ok kx.1 hn ro lo (show x + 5 + 13 * i + 13 ≤ x + 210 by omega) (kn i (by omega)) (show x + 32 + 4 * r + 4 ≤ x + 210 by omega) (show x + 41 + 3 * e + 3 ≤ x + 210 by omega) (g_N g i 2 + 1) 0 0 n n p1 k5 (by omega) (by omega) (by omega) (by omega) S
      obtain ⟨s1, s2, s3, s4, s5, s6, s7, s8, s9, s10⟩ := id S'
      have eN : nI (g_N g i 2) ≤ awT (g_N g i 2 + 1) := by rw [awT_le (by omega) (by omega)]; omega
      have chT : ChM (51 :: 182 :: 183 :: RQ) m h2 j2 := (ch0.up (by decide)).tr ((ch1.up (by decide)).tr ((ch2.up (by decide)).tr ((ch3.up (by decide)).tr ((ch4.up (by decide)).tr ((ch5.up (by decide)).tr (u6.up (by decide)))))))
      have xz : XX x h1 m j2 := v.zz chT (by decide)
      have xe : XX x j1 m j2 := v.kp (fun a k ha => ⟨(u5 a k (by omega)).1.trans (yo a k (by omega)), (u5 a k (by omega)).2.trans (by rw [y4])⟩) s1 chT (by decide)
      have ms : f11_fits K2 n m (nI i) (nI r) (nI e) a4 h2 = if a4 < (10 : Int32) then (if a4 = 0 then some (nI f, j2) else if a4 = (1 : Int32) then (bp (f11_askWhat K2 n m j2) fun y23 => some (y23, j2)) else some (-2, j2)) else some (j2.1 m 83, j2) := by
        unfold f11_fits
        rw [x_lt, e1, x_bd, if_neg b_10, e2, e3, x_bp, x_bd, if_neg b_10, x_lt, x_lt, l_0]
        refine (Eq.trans e5 (Eq.trans u2 ?_))
        rw [f11_fits_L63, mlinks s5, x_bp, if_pos eN, s8]; rfl
      have cJ : f0_fits_J57 K1 n x a4 (x + 5 + 13 * i) (x + 32 + 4 * r) (x + 41 + 3 * e) h1 = if a4 = 0 then some (nI f, j1) else if a4 = (1 : Int32) then (bp (f0_tellingAsk K1 n x (x + 32 + 4 * r) (nI f) j1) fun y19 => some (y19, j1)) else if a4 < (10 : Int32) then some (-2, j1) else if nI f ≤ a4 - (10 : Int32) then some (-2, j1) else gd (inb (a4 - (10 : Int32)) 16) <| some (j1.1 (x + 1038) (a4 - (10 : Int32)).toNatClampNeg, j1) := by
        unfold f0_fits_J57 fJArrays_fill_IIV
        have y1 : fJArrays_fill_IIV_L5 K1 n 40 (x + 1039) 0 (Int32.ofNat 40) n 0 h1 = some p1 := y1
        rw [x_lt, y1, x_bp]
        refine (Eq.trans u1 ?_)
        rw [f0_fits_L71, s2.1 2 (by omega), if_pos eN]
      have cs : f0_fits K1 n x (nI i) (nI r) (nI e) a4 h1 = if a4 < 0 then some (-2, h1) else if a4 ≤ (1 : Int32) then f0_fits_J57 K1 n x a4 (x + 5 + 13 * i) (x + 32 + 4 * r) (x + 41 + 3 * e) h1 else if (10 : Int32) ≤ a4 then f0_fits_J57 K1 n x a4 (x + 5 + 13 * i) (x + 32 + 4 * r) (x + 41 + 3 * e) h1 else some (-2, h1) := by
        unfold f0_fits
        rw [c_netAt kx tr vg li, x_bp, c_runAt kx tr vg lr, x_bp, c_logAt kx tr vg le, x_bp, x_ns, io (kn i (by omega)), x_gd, x_ns, io (kr r (by omega)), x_gd, x_ns, io (kl e (by omega)), x_gd]
      rw [cs, ms]
      by_cases hneg : a4 < 0
      · have t : ∀ {q : Int32}, 0 ≤ q → a4 < q := fun h => Int32.lt_of_lt_of_le hneg h
        have ne : ∀ {q : Int32}, 0 ≤ q → ¬ a4 = q := fun h hh => by
          have := t h
          rw [hh] at this
          exact Int32.lt_irrefl this
        exact ⟨-2, h1, j2, by rw [if_pos hneg], by rw [if_pos (t (by decide)), if_neg (ne (by decide)), if_neg (ne (by decide))], xz⟩
      obtain ⟨w, hw, rfl⟩ := nI_of hneg
      have l1 : (nI w ≤ (1 : Int32)) = (w ≤ 1) := x_le (ab := 1) hw (by omega)
      have l2 : ((10 : Int32) ≤ nI w) = (10 ≤ w) := x_le (aa := 10) (by omega) hw
      have l3 : (nI w < (10 : Int32)) = (w < 10) := x_lt' (ab := 10) hw (by omega)
      have l4 : (nI w = (0 : Int32)) = (w = 0) := x_eq (ab := 0) hw (by omega)
      have l5 : (nI w = (1 : Int32)) = (w = 1) := x_eq (ab := 1) hw (by omega)
      rw [if_neg hneg, cJ]
      simp only [l1, l2, l3, l4, l5]
      by_cases w0 : w = 0
      · exact ⟨nI f, j1, j2, by rw [if_pos (by omega), if_pos w0], by rw [if_pos (by omega), if_pos w0], xe⟩
      by_cases w1 : w = 1
      · obtain ⟨z, z1, z2⟩ := both_telling (K1 := K1) (K2 := K2) (x := x) (m := m) hn ro s3 s6 (show f ≤ 16 by omega) s8 s10
        exact ⟨z, j1, j2, by rw [if_pos (by omega), if_neg w0, if_pos w1, z1, x_bp], by rw [if_pos (by omega), if_neg w0, if_pos w1, z2, x_bp], xe⟩
      by_cases w9 : w < 10
      · exact ⟨-2, h1, j2, by rw [if_neg (show ¬ w ≤ 1 by omega), if_neg (show ¬ 10 ≤ w by omega)], by rw [if_pos w9, if_neg w0, if_neg w1], xz⟩
      · have es : nI w - (10 : Int32) = nI (w - 10) := by rw [l_10]; exact pk_sub (by omega)
        rw [if_neg (show ¬ w ≤ 1 by omega), if_pos (show 10 ≤ w by omega), if_neg w0, if_neg w1, if_neg w9, if_neg w9, es, s9 w (by omega) hw rfl]
        simp only [x_le (show f < 2147483648 by omega) (show w - 10 < 2147483648 by omega)]
        by_cases hf : w - 10 < f
        · exact ⟨_, j1, j2, by rw [if_neg (by omega), x_in (by omega) (by omega), x_gd, x_cl (by omega)], by rw [if_pos hf], xe⟩
        · exact ⟨-2, j1, j2, by rw [if_pos (by omega)], by rw [if_neg hf], xe⟩
    · obtain ⟨k2, e2, ch2⟩ := m_layNo (K2 := K2) (n := n) vm1 gk hi
      refine ⟨-2, h1, k2, ?_, ?_, v.z (ch0.tr ((RG.up ch1).tr ch2))⟩
      · unfold f0_fits
        rw [c_logAt kx tr vg le]
        by_cases w1 : isI a1 (g_c g 0)
        · have w2 : ¬ isI a2 (g_c g 1) := fun hh => hi ⟨w1, hh⟩
          obtain ⟨i, li, rfl⟩ := isI_of (by omega) w1
          rw [c_netAt kx tr vg li, x_bp, c_runNo vg w2, x_bp, x_bp, x_ns, io (kn i (by omega)), x_gd, x_nn]
        · rw [c_netNo vg w1, x_bp]
          by_cases w2 : isI a2 (g_c g 1)
          · obtain ⟨r, lr, rfl⟩ := isI_of (by omega) w2
            rw [c_runAt kx tr vg lr]; rfl
          · rw [c_runNo vg w2]; rfl
      · unfold f11_fits
        rw [x_lt, e1, x_bd, if_neg b_10, e2, x_bd, if_pos rfl]
  · obtain ⟨k1, e1, ch1⟩ := m_logNo (K2 := K2) (n := n) vm0 gk q3
    refine ⟨-2, h1, k1, ?_, ?_, v.z (ch0.tr (RG.up ch1))⟩
    · unfold f0_fits
      rw [c_logNo vg q3]
      by_cases w1 : isI a1 (g_c g 0)
      · obtain ⟨i, li, rfl⟩ := isI_of (by omega) w1
        rw [c_netAt kx tr vg li, x_bp]
        by_cases w2 : isI a2 (g_c g 1)
        · obtain ⟨r, lr, rfl⟩ := isI_of (by omega) w2
          rw [c_runAt kx tr vg lr, x_bp, x_bp, x_ns, io (kn i (by omega)), x_gd, x_ns, io (kr r (by omega)), x_gd, x_nn]
        · rw [c_runNo vg w2, x_bp, x_bp, x_ns, io (kn i (by omega)), x_gd, x_nn]
      · rw [c_netNo vg w1, x_bp]
        by_cases w2 : isI a2 (g_c g 1)
        · obtain ⟨r, lr, rfl⟩ := isI_of (by omega) w2
          rw [c_runAt kx tr vg lr]; rfl
        · rw [c_runNo vg w2]; rfl
    · unfold f11_fits
      rw [x_lt, e1, x_bd, if_pos rfl]
end FitsC
