/-! a whole run, on both sides -/
theorem mx_eq (x y : Int32) : jmax x y = f11_greater x y := by
  unfold jmax f11_greater
  by_cases h : x < y
  · rw [if_pos h, if_pos (Int32.le_of_lt h)]
  · rw [if_neg h]
    by_cases h2 : x ≤ y
    · rw [if_pos h2]
      exact Int32.toInt_inj.mp (by rw [Int32.lt_iff_toInt_lt] at h; rw [Int32.le_iff_toInt_le] at h2; omega)
    · rw [if_neg h2]
section Play
variable {K1 K2 : Ly} {n c o m j : Nat} {N : Nat → Nat} {aw : Int32}
def RC2 : List Nat := 14 :: RC
def RP : List Nat := 176 :: RY
theorem WW.w {h1 h2 : Hp} {kb : Nat} {st : St} {x y : Int32} (V : WW K1 c h1 o m h2 j N aw kb st) : WW K1 c (sI h1 (c + 22) 6 x) o m (sI h2 m 76 y) j N aw kb st := by
  obtain ⟨⟨vc, vm, I⟩, dk⟩ := V
  have ch1 : Ch [14] c h1 (sI h1 (c + 22) 6 x) := Ch.I 14 rg_226 (by simp) Ch.rf
  have ch2 : ChM [176] m h2 (sI h2 m 76 y) := ChM.F (by simp) ChM.rf
  refine ⟨⟨?_, vm.kp ch2 (by decide), I⟩, dk⟩
  obtain ⟨v1, v2, v3, v4, v5, v6, v7, v8, v9, v10⟩ := vc
  exact ⟨v1.kp ch1 (by simp) (by simp), now_kp v2 ch1 (by simp), dn_kp v3 ch1 (by simp), v4.kp ch1 (by simp), v5.kp ch1 (by simp), v6.kp ch1 (by simp), v7.kp ch1 (by simp), v8.kp ch1 (by simp), v9.kp ch1 (by simp), v10.kp ch1 (by simp)⟩
theorem m_deedOf {h2 : Hp} {q jr k w : Nat} {R : Nat → Int32} (v : vMR m h2 q R jr) (hk : 1 + 3 * k + w < 121) : f11_deedOf K2 n m (nI k) (nI w) h2 = some (R (1 + 3 * k + w)) := by
  obtain ⟨v1, v2, v3, v4⟩ := v
  have e0 : ((121 : Int32) * nI jr + (1 : Int32)) + (3 : Int32) * nI k + nI w = nI (121 * jr + (1 + 3 * k + w)) := by
    rw [show (121 : Int32) = nI 121 from rfl, l_1, l_3, pk_mul, pk_mul, nI_add, nI_add, nI_add, show 121 * jr + 1 + 3 * k + w = 121 * jr + (1 + 3 * k + w) by omega]
  unfold f11_deedOf
  rw [v2, e0, x_in (by omega) (by omega), x_gd, x_cl (by omega), v4 _ (by omega) hk]
theorem m_deeds {h2 : Hp} {q jr : Nat} {R : Nat → Int32} (v : vMR m h2 q R jr) : f11_deeds K2 n m h2 = some (nI q) := by
  obtain ⟨v1, v2, v3, v4⟩ := v
  have e0 : (121 : Int32) * nI jr = nI (121 * jr) := by rw [show (121 : Int32) = nI 121 from rfl, pk_mul]
  unfold f11_deeds
  rw [v2, e0, x_in (by omega) (by omega), x_gd, x_cl (by omega), v3]
theorem both_play {r q q' jr : Nat} {R : Nat → Int32} (ok : nOk N) (kc : KC K1 c) (hn : 5000 ≤ n) (ro : rOk q R) (hr : r + 4 ≤ c) (hq : q' ≤ q) : ∀ (d k fu fu' : Nat) (h1 h2 : Hp) (st : St), k + d = q' → d < fu → d < fu' → vR r h1 q R → vMR m h2 q R jr → WW K1 c h1 o m h2 j N aw k st → (∀ k', s_B st k' 8 = 1 ↔ (k' < k ∧ isA R k')) → h1.1 (c + 22) 6 = h2.1 m 76 → ∃ (y : Nat) (h1' h2' : Hp) (st' : St), f10_replay_L10 K1 n c r (nI q') fu (nI k) h1 = some (nI y, h1') ∧ f11_play_L7 K2 n m (nI q') fu' (nI k) h2 = some (nI y, h2') ∧ y ≤ q' ∧ WW K1 c h1' o m h2' j N aw 60 st' ∧ (∀ k', s_B st' k' 8 = 1 ↔ (k' < y ∧ isA R k')) ∧ h1'.1 (c + 22) 6 = h2'.1 m 76 ∧ Ch RC2 c h1 h1' ∧ ChM RP m h2 h2' := by
  have q40 := ro.1
  intro d
  induction d with
  | zero =>
    intro k fu fu' h1 h2 st hk hf hf' vr vmr V hB hw
    obtain ⟨fu, rfl⟩ : ∃ g, fu = g + 1 := ⟨fu - 1, by omega⟩
    obtain ⟨fu', rfl⟩ : ∃ g, fu' = g + 1 := ⟨fu' - 1, by omega⟩
    have kq : k = q' := by omega
    subst kq
    have e1 : nI k ≤ nI k := nI_le (Nat.le_refl _) (by omega)
    have jm : jmin (nI k) (nI q) = nI k := by
      unfold jmin
      rw [if_neg (nI_nlt hq (by omega))]
    refine ⟨k, h1, h2, st, ?_, ?_, Nat.le_refl _, V.up (by omega) (by omega), hB, hw, Ch.rf, ChM.rf⟩
    · simp only [f10_replay_L10, if_pos e1, f10_replay_J65, vr.1, jm]
    · simp only [f11_play_L7, if_pos e1]
  | succ d ih =>
    intro k fu fu' h1 h2 st hk hf hf' vr vmr V hB hw
    obtain ⟨fu, rfl⟩ : ∃ g, fu = g + 1 := ⟨fu - 1, by omega⟩
    obtain ⟨fu', rfl⟩ : ∃ g, fu' = g + 1 := ⟨fu' - 1, by omega⟩
    have e1 : ¬ nI q' ≤ nI k := nI_ge (by omega) (by omega)
    have e2 : ¬ h1.1 r 0 ≤ nI k := by rw [vr.1]; exact nI_ge (by omega) (by omega)
    obtain ⟨y, g1, g2, st1, a1, a2, a3, a4, a5, a6, a7, a8⟩ := both_deed (K2 := K2) ok kc hn ro (show k < q by omega) hr vr V
    have d0 := m_deedOf (K2 := K2) (n := n) vmr (k := k) (w := 0) (by omega)
    have d1 := m_deedOf (K2 := K2) (n := n) vmr (k := k) (w := 1) (by omega)
    have d2 := m_deedOf (K2 := K2) (n := n) vmr (k := k) (w := 2) (by omega)
    rw [show 1 + 3 * k + 1 = 2 + 3 * k by omega] at d1
    rw [show 1 + 3 * k + 2 = 3 + 3 * k by omega] at d2
    have d0 : f11_deedOf K2 n m (nI k) 0 h2 = some (R (1 + 3 * k)) := d0
    have d1 : f11_deedOf K2 n m (nI k) 1 h2 = some (R (2 + 3 * k)) := d1
    have d2 : f11_deedOf K2 n m (nI k) 2 h2 = some (R (3 + 3 * k)) := d2
    have w1 : g1.1 (c + 22) 6 = g2.1 m 76 := by
      rw [(a7 (c + 22) 6 (by rw [rg_226]; decide)).1, a8.f (by decide)]; exact hw
    rcases a3 with rfl | rfl
    · refine ⟨k, g1, g2, st1, ?_, ?_, by omega, a4.up (by omega) (by omega), fun k' => by rw [a6 rfl k']; exact hB k', w1, a7.up (by decide), a8.up (by decide)⟩
      · simp only [f10_replay_L10, if_neg e1, if_neg e2, a1, x_bd, if_true]
      · simp only [f11_play_L7, if_neg e1, d0, d1, d2, x_bp, a2, x_bd, if_true]
    · have nn : g2.1 m 23 = nI (N 0) := a4.1.2.1.1.1.2.2.1
      have ma := m_all (K2 := K2) (n := n) ok nn a4.1.2.1.2.2.2.1 (by omega) (fun e he => (a4.1.2.2.2.2.1 e he).1)
      have c6 := (cvE_len a4.1.1.2.2.2.1).2
      have vr1 : vR r g1 q R := vr.kp hr (fun a i ha => (a7.out (by decide) (Or.inl ha) i).1)
      have vmr1 : vMR m g2 q R jr := vmr.kp a8 (by decide)
      obtain ⟨k1, ek1⟩ : ∃ k1, k1 = sI g1 (c + 22) 6 (f11_greater (g2.1 m 76) (nI (s_L st1).length)) := ⟨_, rfl⟩
      obtain ⟨k2, ek2⟩ : ∃ k2, k2 = sI g2 m 76 (f11_greater (g2.1 m 76) (nI (s_L st1).length)) := ⟨_, rfl⟩
      have V2 : WW K1 c k1 o m k2 j N aw (k + 1) st1 := by rw [ek1, ek2]; exact a4.w
      have ch1 : Ch RC2 c g1 k1 := by rw [ek1]; exact Ch.I 14 rg_226 (by decide) Ch.rf
      have ch2 : ChM RP m g2 k2 := by rw [ek2]; exact ChM.F (by decide) ChM.rf
      obtain ⟨y', l1, l2, st', b1, b2, b3, b4, b5, b6, b7, b8⟩ := ih (k + 1) fu fu' k1 k2 st1 (by omega) (by omega) (by omega) (vr1.kp hr (fun a i ha => (ch1.out (by decide) (Or.inl ha) i).1)) (vmr1.kp ch2 (by decide)) V2 (fun k' => by
        rw [a5 rfl k', hB k']
        constructor
        · rintro (⟨h1, h2⟩ | ⟨h1, h2⟩)
          · exact ⟨by omega, h2⟩
          · subst h1; exact ⟨by omega, h2⟩
        · rintro ⟨h1, h2⟩
          by_cases hk' : k' = k
          · subst hk'; exact Or.inr ⟨rfl, h2⟩
          · exact Or.inl ⟨by omega, h2⟩) (by rw [ek1, ek2, rI_e, rI_e])
      refine ⟨y', l1, l2, st', ?_, ?_, b3, b4, b5, b6, ((a7.up (by decide)).tr ch1).tr b7, ((a8.up (by decide)).tr ch2).tr b8⟩
      · simp only [f10_replay_L10, if_neg e1, if_neg e2, a1, x_bd, if_neg b_10, x_lt, nI_1]
        have z6 : (6 : Int32).toNatClampNeg = 6 := by decide
        rw [z6, c6, mx_eq, w1, ← ek1]; exact b1
      · simp only [f11_play_L7, if_neg e1, d0, d1, d2, x_bp, a2, x_bd, if_neg b_10, x_lt, nI_1, ma, ← ek2]
        exact b2
/-- from the beginning -/
theorem both_run {r q q' jr : Nat} {R : Nat → Int32} {h1 h2 : Hp} (ok : nOk N) (kc : KC K1 c) (hn : 5000 ≤ n) (ro : rOk q R) (hr : r + 4 ≤ c) (hq : q' ≤ q) (hx : cX c h1) (ho : o + 13 ≤ c) (ko : K1 o = some (.inl 2)) (vn : vN o h1 N) (vmn : vMN m h2 N j) (vr : vR r h1 q R) (vmr : vMR m h2 q R jr) : ∃ (y : Nat) (h1' g2 h2' : Hp) (st' : St), f10_replay K1 n c o r (nI q') aw h1 = some (nI y, h1') ∧ f11_begin K2 n m aw h2 = some g2 ∧ f11_play K2 n m (nI q') g2 = some (nI y, h2') ∧ y ≤ q' ∧ WW K1 c h1' o m h2' j N aw 60 st' ∧ (∀ k', s_B st' k' 8 = 1 ↔ (k' < y ∧ isA R k')) ∧ h1'.1 (c + 22) 6 = h2'.1 m 76 ∧ (∀ a k, (a < c ∨ c + 827 ≤ a) → h1'.1 a k = h1.1 a k ∧ h1'.2.1 a k = h1.2.1 a k ∧ h1'.2.2 a k = h1.2.2 a k) ∧ ChM (11 :: RP) m h2 h2' ∧ ChM (11 :: RP) m h2 g2 := by
  obtain ⟨k1, a1, a2, a3, a4⟩ := cbegin (n := n) (aw := aw) kc hn hx ho ko vn
  obtain ⟨k2, b1, b2, b3⟩ := mbegin (K := K2) (n := n) aw (fun k i => h1.1 (c + 767 + k) i) ok hn vmn
  obtain ⟨g2, eg⟩ : ∃ g2, g2 = sI k2 m 76 0 := ⟨_, rfl⟩
  have ch2 : ChM [176] m k2 g2 := by rw [eg]; exact ChM.F (by simp) ChM.rf
  have V0 : WW K1 c k1 o m g2 j N aw 0 (st0 (fun k i => h1.1 (c + 767 + k) i)) := ⟨⟨a2, b2.kp ch2 (by decide), inv_0⟩, fun l hl => by
    have hl : bI 0 l = true := hl
    rw [bI_0] at hl; cases hl⟩
  have q40 := ro.1
  obtain ⟨y, l1, l2, st', c1, c2, c3, c4, c5, c6, c7, c8⟩ := both_play (K2 := K2) (q := q) (q' := q') (r := r) (R := R) (jr := jr) ok kc hn ro hr hq q' 0 n n k1 g2 _ (by omega) (by omega) (by omega) (vr.kp hr (fun a i ha => (a4 a i (Or.inl ha)).1)) ((vmr.kp b3 (by decide)).kp ch2 (by decide)) V0 (fun k' => by
    constructor
    · intro hh
      exact absurd hh (by show ¬ (if (8 : Nat) < 8 then h1.1 (c + 767 + k') 8 else (0 : Int32)) = 1; rw [if_neg (by omega)]; decide)
    · rintro ⟨hh, -⟩; omega) (by rw [a3, eg, rI_e])
  refine ⟨y, l1, k2, l2, st', ?_, b1, ?_, c3, c4, c5, c6, fun a k ha => ?_, ((b3.up (by decide)).tr (ch2.up (by decide))).tr (c8.up (by decide)), b3.up (by decide)⟩
  · unfold f10_replay
    rw [a1, x_bp]; exact c1
  · unfold f11_play
    rw [x_lt, ← eg]; exact c2
  · obtain ⟨p1, p2, p3⟩ := c7.out (by decide) ha k
    obtain ⟨q1, q2, q3⟩ := a4 a k ha
    exact ⟨p1.trans q1, p2.trans q2, p3.trans q3⟩
end Play
