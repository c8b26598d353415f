section FarC
variable {K1 K2 : Ly} {n x o m j : Nat} {h1 h2 : Hp} {N : Nat → Nat} {g : Gh} {a1 a2 a3 : Int32}
def bfv (x : Nat) (h : Hp) (P : Nat → Option Nat) : Prop := ∀ t, t < 7 → h.1 (x + 1037) t = oI (P t)
theorem c_shorten {P : Nat → Option Nat} {D : Nat → Nat} {h : Hp} {u v w B : Nat} (hv : bfv x h P) (hu : u < 6) (hvv : v < 6) (hw : w ≤ 9) (hB : B < 1000000) (hs : sdP D P B) (hD : D v ≤ D u + w) : ∃ h' P', f0_shorten K1 n x (nI u) (nI v) (nI w) h = some h' ∧ bfv x h' P' ∧ (∀ b k, b ≠ x + 1037 → h'.1 b k = h.1 b k) ∧ h'.2 = h.2 ∧ dcP P P' ∧ sdP D P' (B + 9) ∧ (∀ p, P u = some p → ∃ q, P' v = some q ∧ q ≤ p + w) := by
  have i1 : inb (nI u) 7 = true := x_in (by omega) (by omega)
  have i2 : inb (nI v) 7 = true := x_in (by omega) (by omega)
  have i3 : (nI u).toNatClampNeg = u := x_cl (by omega)
  have i4 : (nI v).toNatClampNeg = v := x_cl (by omega)
  have e1 := hv u (by omega)
  have e2 := hv v (by omega)
  have sd9 : sdP D P (B + 9) := fun t q h => by have := hs t q h; omega
  cases hp : P u with
  | none =>
    refine ⟨h, P, ?_, hv, fun _ _ _ => rfl, rfl, dcP.rf, sd9, fun p hh => by cases hh⟩
    unfold f0_shorten
    rw [i1, x_gd, i3, e1, hp, if_pos oI_none]
  | some p =>
    have bp := hs u p hp
    have n1 : ¬ oI (some p) = (-1 : Int32) := by
      show ¬ nI p = (-1 : Int32)
      rw [x_nm1 (by omega)]; exact fun hh => hh
    have set : ∃ h' P', f0_shorten_J37 K1 n x (nI u) (nI v) (nI w) h = some h' ∧ bfv x h' P' ∧ (∀ b k, b ≠ x + 1037 → h'.1 b k = h.1 b k) ∧ h'.2 = h.2 ∧ (∀ t, P' t = if t = v then some (p + w) else P t) := by
      refine ⟨sI h (x + 1037) v (nI (p + w)), fun t => if t = v then some (p + w) else P t, ?_, fun t ht => ?_, fun b k hb => rI_n (by omega), rfl, fun t => rfl⟩
      · unfold f0_shorten_J37
        rw [i1, x_gd, i2, x_gd, x_lt, i3, i4, e1, hp, show oI (some p) = nI p from rfl, nI_add]
      · by_cases htv : t = v
        · rw [htv, rI_e]; simp [oI]
        · rw [rI_n (by omega), hv t ht]; simp [htv]
    have fin : (∀ q, P v = some q → p + w ≤ q) → f0_shorten K1 n x (nI u) (nI v) (nI w) h = f0_shorten_J37 K1 n x (nI u) (nI v) (nI w) h → ∃ h' P', f0_shorten K1 n x (nI u) (nI v) (nI w) h = some h' ∧ bfv x h' P' ∧ (∀ b k, b ≠ x + 1037 → h'.1 b k = h.1 b k) ∧ h'.2 = h.2 ∧ dcP P P' ∧ sdP D P' (B + 9) ∧ (∀ p', some p = some p' → ∃ q, P' v = some q ∧ q ≤ p' + w) := fun hle hj => by
      obtain ⟨h', P', s1, s2, s3, s4, s5⟩ := set
      refine ⟨h', P', hj.trans s1, s2, s3, s4, fun t q ht => ?_, fun t q ht => ?_, fun p' hp' => ?_⟩
      · rw [s5]
        by_cases htv : t = v
        · subst htv; rw [if_pos rfl]; exact ⟨_, rfl, hle q ht⟩
        · rw [if_neg htv]; exact ⟨q, ht, Nat.le_refl _⟩
      · rw [s5] at ht
        by_cases htv : t = v
        · subst htv
          rw [if_pos rfl] at ht
          cases ht
          omega
        · rw [if_neg htv] at ht
          have := hs t q ht
          omega
      · cases hp'
        exact ⟨p + w, by rw [s5, if_pos rfl], Nat.le_refl _⟩
    cases hq : P v with
    | none =>
      refine fin (fun q hh => by rw [hq] at hh; cases hh) ?_
      unfold f0_shorten
      rw [i1, x_gd, i3, e1, hp, if_neg n1, i2, x_gd, i4, e2, hq, if_pos oI_none]
    | some q =>
      have bq := hs v q hq
      have n2 : ¬ oI (some q) = (-1 : Int32) := by
        show ¬ nI q = (-1 : Int32)
        rw [x_nm1 (by omega)]; exact fun hh => hh
      have base : f0_shorten K1 n x (nI u) (nI v) (nI w) h = if q ≤ p + w then some h else f0_shorten_J37 K1 n x (nI u) (nI v) (nI w) h := by
        unfold f0_shorten
        rw [i1, x_gd, i3, e1, hp, if_neg n1, i2, x_gd, i4, e2, hq, if_neg n2, x_gd, x_gd, show oI (some p) = nI p from rfl, show oI (some q) = nI q from rfl, nI_add]
        simp only [x_le (show q < 2147483648 by omega) (show p + w < 2147483648 by omega)]
      by_cases hc : q ≤ p + w
      · refine ⟨h, P, by rw [base, if_pos hc], hv, fun _ _ _ => rfl, rfl, dcP.rf, sd9, fun p' hh => ?_⟩
        cases hh
        exact ⟨q, hq, hc⟩
      · exact fin (fun q' hh => by rw [hq] at hh; cases hh; omega) (by rw [base, if_neg hc])
theorem c_far1 (ok : nOk N) (ho : o + 13 ≤ x + 210) {D : Nat → Nat} {a : Nat} (hD : dOkD N D a) {yb yr : Int32} (r : Int32 → Hp → Option (Int32 × Hp)) : ∀ (d k fu B : Nat) (h : Hp) (P : Nat → Option Nat), k + d = N 2 → d < fu → B + 18 * d < 1000000 → vN o h N → bfv x h P → sdP D P B → ∃ h' P', f0_far_L63 K1 n x yb o yr r fu (nI k) h = r (yr + 1) h' ∧ bfv x h' P' ∧ (∀ b k, b ≠ x + 1037 → h'.1 b k = h.1 b k) ∧ h'.2 = h.2 ∧ dcP P P' ∧ sdP D P' (B + 18 * d) ∧ (∀ l, k ≤ l → l < N 2 → (∀ p, P (N (11 + 3 * l)) = some p → ∃ q, P' (N (12 + 3 * l)) = some q ∧ q ≤ p + N (13 + 3 * l)) ∧ (∀ p, P (N (12 + 3 * l)) = some p → ∃ q, P' (N (11 + 3 * l)) = some q ∧ q ≤ p + N (13 + 3 * l))) := by
  have hN : N 2 ≤ 15 := ok.2.2.1
  have b0 := ok.1
  intro d
  induction d with
  | zero =>
    intro k fu B h P hk hf hB vn hv hs
    obtain ⟨fu, rfl⟩ : ∃ g, fu = g + 1 := ⟨fu - 1, by omega⟩
    have e1 : nI (N 2) ≤ nI k := nI_le (by omega) (by omega)
    refine ⟨h, P, ?_, hv, fun _ _ _ => rfl, rfl, dcP.rf, fun t q ht => by have := hs t q ht; omega, fun l h1 h2 => by omega⟩
    rw [f0_far_L63, vn.1 2 (by omega), if_pos e1, x_lt]
  | succ d ih =>
    intro k fu B h P hk hf hB vn hv hs
    obtain ⟨fu, rfl⟩ : ∃ g, fu = g + 1 := ⟨fu - 1, by omega⟩
    have e1 : ¬ nI (N 2) ≤ nI k := nI_ge (by omega) (by omega)
    obtain ⟨c1, c2, c3, c4, c5⟩ := ok.2.2.2.2.2.2.1 k (by omega)
    obtain ⟨w1, w2, w3⟩ := vn.2.2.1 k (by omega)
    have g1 : eg N (N (11 + 3 * k)) (N (12 + 3 * k)) (N (13 + 3 * k)) := ⟨k, by omega, rfl, Or.inl ⟨rfl, rfl⟩⟩
    have g2 : eg N (N (12 + 3 * k)) (N (11 + 3 * k)) (N (13 + 3 * k)) := ⟨k, by omega, rfl, Or.inr ⟨rfl, rfl⟩⟩
    obtain ⟨p1, P1, s1, s2, s3, s4, s5, s6, s7⟩ := c_shorten (K1 := K1) (n := n) (D := D) hv (u := N (11 + 3 * k)) (v := N (12 + 3 * k)) (w := N (13 + 3 * k)) (by omega) (by omega) c5 (show B < 1000000 by omega) hs (hD.2.1 _ _ _ g1)
    have vn1 : vN o p1 N := vn.kp (fun a k _ _ => s3 a k (by omega))
    obtain ⟨w1', w2', w3'⟩ := vn1.2.2.1 k (by omega)
    obtain ⟨p2, P2, t1, t2, t3, t4, t5, t6, t7⟩ := c_shorten (K1 := K1) (n := n) (D := D) s2 (u := N (12 + 3 * k)) (v := N (11 + 3 * k)) (w := N (13 + 3 * k)) (by omega) (by omega) c5 (show B + 9 < 1000000 by omega) s6 (hD.2.1 _ _ _ g2)
    have vn2 : vN o p2 N := vn1.kp (fun a k _ _ => t3 a k (by omega))
    obtain ⟨h', P', q1, q2, q3, q4, q5, q6, q7⟩ := ih (k + 1) fu (B + 9 + 9) p2 P2 (by omega) (by omega) (by omega) vn2 t2 t6
    have i1 : inb (nI k) 15 = true := x_in (by omega) (by omega)
    have i2 : (nI k).toNatClampNeg = k := x_cl (by omega)
    refine ⟨h', P', ?_, q2, fun b k hb => (q3 b k hb).trans ((t3 b k hb).trans (s3 b k hb)), q4.trans (t4.trans s4), s5.tr (t5.tr q5), fun t q ht => by have := q6 t q ht; omega, fun l h1 h2 => ?_⟩
    · rw [f0_far_L63, vn.1 2 (by omega), if_neg e1, i1, x_gd, x_gd, x_gd, i2, w1, w2, w3, s1, x_bp, x_gd, x_gd, x_gd, w1', w2', w3', t1, x_bp, x_lt, nI_1]
      exact q1
    · by_cases hl : l = k
      · subst hl
        refine ⟨fun p hp => ?_, fun p hp => ?_⟩
        · obtain ⟨y1, z1, z2⟩ := s7 p hp
          obtain ⟨y2, z3, z4⟩ := t5 _ _ z1
          obtain ⟨y3, z5, z6⟩ := q5 _ _ z3
          exact ⟨y3, z5, by omega⟩
        · obtain ⟨y0, z0, z0'⟩ := s5 _ _ hp
          obtain ⟨y1, z1, z2⟩ := t7 y0 z0
          obtain ⟨y3, z5, z6⟩ := q5 _ _ z1
          exact ⟨y3, z5, by omega⟩
      · obtain ⟨z1, z2⟩ := q7 l (by omega) h2
        refine ⟨fun p hp => ?_, fun p hp => ?_⟩
        · obtain ⟨y1, x1, x2⟩ := (s5.tr t5) _ _ hp
          obtain ⟨y2, x3, x4⟩ := z1 y1 x1
          exact ⟨y2, x3, by omega⟩
        · obtain ⟨y1, x1, x2⟩ := (s5.tr t5) _ _ hp
          obtain ⟨y2, x3, x4⟩ := z2 y1 x1
          exact ⟨y2, x3, by omega⟩
theorem c_far2 (ok : nOk N) (hn : 5000 ≤ n) (ho : o + 13 ≤ x + 210) {D : Nat → Nat} {a b : Nat} (hD : dOkD N D a) (hb : b < N 0) : ∀ (d r fu B : Nat) (h : Hp) (P : Nat → Option Nat), r + d + 1 = N 0 → d < fu → B + 300 * d < 1000000 → vN o h N → bfv x h P → sdP D P B → stP N D P r → P a = some 0 → ∃ h', f0_far_L50 K1 n x (nI b) o fu (nI (r + 1)) h = some ((if 1000000 ≤ D b then (-1 : Int32) else nI (D b)), h') ∧ (∀ b k, b ≠ x + 1037 → h'.1 b k = h.1 b k) ∧ h'.2 = h.2 := by
  have hN : N 2 ≤ 15 := ok.2.2.1
  have b0 := ok.1
  intro d
  induction d with
  | zero =>
    intro r fu B h P hk hf hB vn hv hs hst ha
    obtain ⟨fu, rfl⟩ : ∃ g, fu = g + 1 := ⟨fu - 1, by omega⟩
    have e1 : nI (N 0) ≤ nI (r + 1) := nI_le (by omega) (by omega)
    refine ⟨h, ?_, fun _ _ _ => rfl, rfl⟩
    rw [f0_far_L50, vn.1 0 (by omega), if_pos e1, x_in (by omega) (by omega), x_gd, x_cl (by omega), hv b (by omega)]
    rcases st_end ok (show B < 1000000 by omega) hb (by rw [show N 0 - 1 = r by omega]; exact hst) hs with ⟨y1, y2⟩ | ⟨y1, y2⟩
    · rw [y2, if_neg (by omega)]; rfl
    · rw [y2, if_pos y1]; rfl
  | succ d ih =>
    intro r fu B h P hk hf hB vn hv hs hst ha
    obtain ⟨fu, rfl⟩ : ∃ g, fu = g + 1 := ⟨fu - 1, by omega⟩
    have e1 : ¬ nI (N 0) ≤ nI (r + 1) := nI_ge (by omega) (by omega)
    obtain ⟨h', P', q1, q2, q3, q4, q5, q6, q7⟩ := c_far1 (K1 := K1) (n := n) ok ho hD (yb := nI b) (yr := nI (r + 1)) (f0_far_L50 K1 n x (nI b) o fu) (N 2) 0 n B h P (by omega) (by omega) (by omega) vn hv hs
    have vn' : vN o h' N := vn.kp (fun a k _ _ => q3 a k (by omega))
    have st' : stP N D P' (r + 1) := st_s ok hD hst q5 (fun u v w he p hp => by
      obtain ⟨l, hl, rfl, hh⟩ := he
      obtain ⟨z1, z2⟩ := q7 l (by omega) hl
      rcases hh with ⟨rfl, rfl⟩ | ⟨rfl, rfl⟩
      · exact z1 p hp
      · exact z2 p hp) q6 ha
    have pa' : P' a = some 0 := by
      obtain ⟨q, y1, y2⟩ := q5 _ _ ha
      rw [y1, show q = 0 by omega]
    obtain ⟨h'', p1, p2, p3⟩ := ih (r + 1) fu (B + 18 * N 2) h' P' (by omega) (by omega) (by omega) vn' q2 q6 st' pa'
    refine ⟨h'', ?_, fun b k hb => (p2 b k hb).trans (q3 b k hb), p3.trans q4⟩
    rw [f0_far_L50, vn.1 0 (by omega), if_neg e1]
    rw [nI_1] at q1
    exact q1.trans p1
theorem both_far (kx : KX K1 x) (hn : 5000 ≤ n) (v : XX x h1 m h2) : CC x m (f0_far K1 n x a1 a2 a3 h1) (f11_far K2 n m a1 a2 a3 h2) := by
  obtain ⟨g, vg⟩ := v.2.2.1
  have tr := v.1 0 (by omega)
  have c0 := vg.1.2.1 0 (by omega)
  by_cases hi : isI a1 (g_c g 0)
  · obtain ⟨i, li, rfl⟩ := isI_of (by omega) hi
    have ok := vg.1.2.2.1 i li
    have b0 := ok.1
    obtain ⟨g2, e1, vmn, ch1, xz⟩ := one_yes (K2 := K2) (n := n) v vg li
    have nn : g2.1 m 23 = nI (g_N g i 0) := vmn.2.2.1
    have cf := fun (b : Option (Int32 × Hp)) (F : Nat → Option (Int32 × Hp)) => c_one (n := n) (b := b) (F := F) kx tr vg li
    obtain ⟨-, ko, vn⟩ := cf none (fun _ => none)
    by_cases h2n : isI a2 (g_N g i 0)
    · obtain ⟨a, la, rfl⟩ := isI_of (by omega) h2n
      by_cases h3n : isI a3 (g_N g i 0)
      · obtain ⟨b, lb, rfl⟩ := isI_of (by omega) h3n
        obtain ⟨k2, D, s1, s2, s3⟩ := m_far (K2 := K2) ok hn vmn (show a < 6 by omega) (show b < 6 by omega)
        obtain ⟨k1, f1, f2, f3, f4⟩ := fillI (K := K1) (n := n) (a := x + 1037) (len := 7) (x := -1) (by omega) 7 0 n h1 (by omega) (by omega)
        have vn1 : vN (x + 5 + 13 * i) (sI k1 (x + 1037) a 0) (g_N g i) := vn.kp (fun b k _ _ => by rw [rI_n (by omega), f2 b k (by omega)])
        obtain ⟨k3, t1, t2, t3⟩ := c_far2 (K1 := K1) ok hn (show x + 5 + 13 * i + 13 ≤ x + 210 by omega) s3 lb (g_N g i 0 - 1) 0 n 0 (sI k1 (x + 1037) a 0) (fun v => if v = a then some 0 else none) (by omega) (by omega) (by omega) vn1 (fun t ht => by
          by_cases hta : t = a
          · rw [hta, rI_e]; simp [oI]; rfl
          · rw [rI_n (by omega), f3 t (by omega) ht]; simp [hta, oI]) (fun t q ht => by
          by_cases hta : t = a
          · subst hta; simp at ht; subst ht; rw [s3.1]; omega
          · simp [hta] at ht) (st_0 ok la s3) (by simp)
        refine ⟨if 1000000 ≤ D b then (-1 : Int32) else nI (D b), k3, k2, ?_, ?_, ?_⟩
        · unfold f0_far fJArrays_fill_IIV
          refine (cf _ _).1.trans ?_
          rw [c_hasN vn ok (by omega), if_pos la, if_neg b_10, c_hasN vn ok (by omega), if_pos lb, if_neg b_10, x_lt, show (Int32.ofNat 7) = nI 7 from rfl, l_0, f1, x_bp, x_in (by omega) (by omega), x_gd, x_lt, x_cl (by omega)]
          exact t1
        · unfold f11_far
          rw [x_lt, e1, x_bd, if_neg b_10, m_isN nn ok (by omega), x_bp, if_pos la, if_neg b_10, m_isN nn ok (by omega), x_bp, if_pos lb, if_neg b_10, s1]
        · have e2 : k3.2 = h1.2 := t3.trans f4
          refine v.kp (R := 50 :: RL) (fun b k hb => ⟨?_, by rw [e2]⟩) (v.2.1.kp1 e2) ((ch1.up (by decide)).tr (s2.up (by decide))) (by decide)
          rw [t2 b k (by omega), rI_n (by omega), f2 b k (by omega)]
      · refine ⟨-1, h1, g2, ?_, ?_, xz⟩
        · unfold f0_far
          refine (cf _ _).1.trans ?_
          rw [c_hasN vn ok (by omega), if_pos la, if_neg b_10, c_hasI vn ok h3n, if_pos rfl]
        · unfold f11_far
          rw [x_lt, e1, x_bd, if_neg b_10, m_isN nn ok (by omega), x_bp, if_pos la, if_neg b_10, m_isNo nn ok h3n, x_bp, if_pos rfl]
    · refine ⟨-1, h1, g2, ?_, ?_, xz⟩
      · unfold f0_far
        refine (cf _ _).1.trans ?_
        rw [c_hasI vn ok h2n, if_pos rfl]
      · unfold f11_far
        rw [x_lt, e1, x_bd, if_neg b_10, m_isNo nn ok h2n, x_bp, if_pos rfl]
  · obtain ⟨k1, e1, xz⟩ := one_no (K2 := K2) (n := n) v vg hi
    refine ⟨-1, h1, k1, ?_, ?_, xz⟩
    · unfold f0_far
      exact c_oneNo vg hi
    · unfold f11_far
      rw [x_lt, e1, x_bd, if_pos rfl]
end FarC
