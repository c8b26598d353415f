/-! the deeds of a run, on both sides -/
def dOk (x : Int32) : Prop := ∀ l, bI x l = true → l < 15
def WW (K : Ly) (c : Nat) (h1 : Hp) (o m : Nat) (h2 : Hp) (j : Nat) (N : Nat → Nat) (aw : Int32) (kb : Nat) (st : St) : Prop := VV K c h1 o m h2 j N aw kb st ∧ dOk (s_d st)
/-- a run as told: how many deeds, and a row of 121 numbers -/
def rOk (q : Nat) (R : Nat → Int32) : Prop := q ≤ 40 ∧ ∀ k, k < q → ((R (1 + 3 * k) = 0 ∨ R (1 + 3 * k) = 1) ∧ (∃ x, x < 6 ∧ R (2 + 3 * k) = nI x) ∧ ∃ y, 0 < y ∧ y < 531441 ∧ R (3 + 3 * k) = nI y) ∨ (R (1 + 3 * k) = 2 ∧ ∃ x, 1 ≤ x ∧ x ≤ 20 ∧ R (2 + 3 * k) = nI x) ∨ ((R (1 + 3 * k) = 3 ∨ R (1 + 3 * k) = 4) ∧ (∃ x, x < 6 ∧ R (2 + 3 * k) = nI x) ∧ ∃ y, y < 6 ∧ R (3 + 3 * k) = nI y)
def isA (R : Nat → Int32) (k : Nat) : Prop := R (1 + 3 * k) = 0 ∨ R (1 + 3 * k) = 1
def vR (r : Nat) (h : Hp) (q : Nat) (R : Nat → Int32) : Prop := h.1 r 0 = nI q ∧ ∀ k, k < q → h.1 (r + 1) k = R (1 + 3 * k) ∧ h.1 (r + 2) k = R (2 + 3 * k) ∧ h.1 (r + 3) k = R (3 + 3 * k)
def vMR (m : Nat) (h : Hp) (q : Nat) (R : Nat → Int32) (j : Nat) : Prop := j < 2 ∧ h.1 m 75 = nI j ∧ h.1 (m + 7) (121 * j) = nI q ∧ ∀ i, 1 ≤ i → i < 121 → h.1 (m + 7) (121 * j + i) = R i
theorem vR.kp {r c q : Nat} {h h' : Hp} {R : Nat → Int32} (v : vR r h q R) (hr : r + 4 ≤ c) (e : ∀ a k, a < c → h'.1 a k = h.1 a k) : vR r h' q R := by
  refine ⟨by rw [e _ _ (by omega)]; exact v.1, fun k hk => ?_⟩
  rw [e _ _ (by omega), e _ _ (by omega), e _ _ (by omega)]; exact v.2 k hk
theorem vMR.kp {m q j : Nat} {h h' : Hp} {R : Nat → Int32} {Rg : List Nat} (v : vMR m h q R j) (ch : ChM Rg m h h') (hd : dj [7, 175] Rg = true) : vMR m h' q R j := by
  refine ⟨v.1, by rw [ch.f (dj_n hd (by simp))]; exact v.2.1, by rw [ch.a (by omega) (dj_n hd (by simp))]; exact v.2.2.1, fun i h1 h2 => ?_⟩
  rw [ch.a (by omega) (dj_n hd (by simp))]; exact v.2.2.2 i h1 h2
theorem Ch.out {R : List Nat} {c : Nat} {h h' : Hp} (q : Ch R c h h') (h10 : ¬ 10 ∈ R) {a : Nat} (ha : a < c ∨ c + 827 ≤ a) (k : Nat) : h'.1 a k = h.1 a k ∧ h'.2.1 a k = h.2.1 a k ∧ h'.2.2 a k = h.2.2 a k := q a k (by rw [rg_o ha]; exact h10)
section Deeds
variable {K1 K2 : Ly} {n c o m j : Nat} {h1 h2 : Hp} {N : Nat → Nat} {aw : Int32} {kb : Nat} {st : St}
theorem inv_kb {kb' lo s : Nat} (I : Inv N kb lo s st) (h : kb ≤ kb') (h6 : kb' ≤ 60) : Inv N kb' lo s st := by
  obtain ⟨i0, i1, i2, i3, i4, i5, i6, i7, i8, i9, i10⟩ := I
  refine ⟨h6, i1, fun e he => ?_, fun p hp => ?_, i4, fun x k hx hb => by have := i5 x k hx hb; omega, i6, fun k hk => ⟨by have := (i7 k hk).1; omega, (i7 k hk).2⟩, i8, i9, i10⟩
  · obtain ⟨v1, v2, v3, v4, ⟨x, x1, x2⟩, v6, v7, v8⟩ := i2 e he
    exact ⟨v1, v2, v3, v4, ⟨x, by omega, x2⟩, fun k hk => ⟨by have := (v6 k hk).1; omega, (v6 k hk).2⟩, v7, v8⟩
  · obtain ⟨q1, q2, q3, p1, p2, p3⟩ := i3 p hp
    exact ⟨q1, q2, q3, p1, p2, fun h0 => by
      obtain ⟨x, x1, x2⟩ := p3 h0
      exact ⟨x, by omega, x2⟩⟩
theorem WW.up {kb' : Nat} (V : WW K1 c h1 o m h2 j N aw kb st) (h : kb ≤ kb') (h6 : kb' ≤ 60) : WW K1 c h1 o m h2 j N aw kb' st := ⟨⟨V.1.1, V.1.2.1, inv_kb V.1.2.2 h h6⟩, V.2⟩
/-- so many minutes -/
theorem both_mins (ok : nOk N) (kc : KC K1 c) (hn : 5000 ≤ n) : ∀ (d : Nat) (h1 h2 : Hp) (st : St), s_n st + d ≤ 99 → WW K1 c h1 o m h2 j N aw kb st → ∃ (H1 H2 : Nat → Hp) (st' : St), H1 0 = h1 ∧ H2 0 = h2 ∧ (∀ i, i < d → f10_passMinute K1 n c (H1 i) = some (H1 (i + 1)) ∧ f11_goesBy K2 n m (H2 i) = some (H2 (i + 1))) ∧ WW K1 c (H1 d) o m (H2 d) j N aw kb st' ∧ s_n st' = s_n st + d ∧ s_d st' = s_d st ∧ (∀ k, s_B st' k 8 = s_B st k 8) ∧ Ch RC c h1 (H1 d) ∧ ChM RY m h2 (H2 d) := by
  intro d
  induction d with
  | zero => exact fun h1 h2 st _ V => ⟨fun _ => h1, fun _ => h2, st, rfl, rfl, fun i hi => by omega, V, rfl, rfl, fun _ => rfl, Ch.rf, ChM.rf⟩
  | succ d ih =>
    intro h1 h2 st hs V
    obtain ⟨g1, g2, st1, a1, a2, a3, a4, a5, a6, a7, a8⟩ := both_min (K2 := K2) ok kc hn (by omega) V.1
    obtain ⟨H1, H2, st', b1, b2, b3, b4, b5, b6, b7, b8, b9⟩ := ih g1 g2 st1 (by omega) ⟨a3, by rw [a5]; exact V.2⟩
    refine ⟨fun i => if i = 0 then h1 else H1 (i - 1), fun i => if i = 0 then h2 else H2 (i - 1), st', rfl, rfl, fun i hi => ?_, b4, by omega, b6.trans a5, fun k => (b7 k).trans (a6 k), a7.tr b8, a8.tr b9⟩
    by_cases h0 : i = 0
    · subst h0
      simp only [if_true]
      exact ⟨by rw [a1]; simp [b1], by rw [a2]; simp [b2]⟩
    · have := b3 (i - 1) (by omega)
      simp only [if_neg h0, if_neg (show ¬ i + 1 = 0 by omega)]
      rw [show i - 1 + 1 = i by omega] at this
      rw [show i + 1 - 1 = i by omega]
      exact this
theorem m_waits {H : Nat → Hp} {t : Nat} (ht : t < 200) (hs : ∀ i, i < t → f11_goesBy K2 n m (H i) = some (H (i + 1))) : ∀ (d i fu : Nat), i + d = t → d < fu → f11_waits_L15 K2 n m (nI t) fu (nI i) (H i) = some (1, H t) := by
  intro d
  induction d with
  | zero =>
    intro i fu hi hf
    obtain ⟨fu, rfl⟩ : ∃ g, fu = g + 1 := ⟨fu - 1, by omega⟩
    have e1 : nI t ≤ nI i := nI_le (by omega) (by omega)
    rw [show i = t by omega] at e1 ⊢
    simp only [f11_waits_L15, if_pos e1]
  | succ d ih =>
    intro i fu hi hf
    obtain ⟨fu, rfl⟩ : ∃ g, fu = g + 1 := ⟨fu - 1, by omega⟩
    have e1 : ¬ nI t ≤ nI i := nI_ge (by omega) (by omega)
    simp only [f11_waits_L15, if_neg e1, hs i (by omega), x_bp, x_lt, nI_1]
    exact ih (i + 1) fu (by omega) (by omega)
theorem c_waits {H : Nat → Hp} {t u : Nat} (ht : t < 200) (hu : u ≤ 99) (hs : ∀ i, i < t → f10_passMinute K1 n c (H i) = some (H (i + 1))) : ∀ (d i fu : Nat), i + d = t → d < fu → f10_perform_L85 K1 n c (nI t) (nI u) fu (nI i) (H i) = some (1, H t) ∧ f10_drawWait_L17 K1 n c (nI t) (nI u) fu (nI i) (H i) = some (H t) := by
  have e2 : ¬ (99 : Int32) < nI u := by rw [l_99]; exact nI_nlt hu (by omega)
  intro d
  induction d with
  | zero =>
    intro i fu hi hf
    obtain ⟨fu, rfl⟩ : ∃ g, fu = g + 1 := ⟨fu - 1, by omega⟩
    have e1 : nI t ≤ nI i := nI_le (by omega) (by omega)
    rw [show i = t by omega] at e1 ⊢
    exact ⟨by simp only [f10_perform_L85, if_pos e1, f10_perform_J108, if_neg e2], by simp only [f10_drawWait_L17, if_pos e1]⟩
  | succ d ih =>
    intro i fu hi hf
    obtain ⟨fu, rfl⟩ : ∃ g, fu = g + 1 := ⟨fu - 1, by omega⟩
    have e1 : ¬ nI t ≤ nI i := nI_ge (by omega) (by omega)
    obtain ⟨r1, r2⟩ := ih (i + 1) fu (by omega) (by omega)
    exact ⟨by simp only [f10_perform_L85, if_neg e1, if_neg e2, hs i (by omega), x_bp, x_lt, nI_1]; exact r1, by simp only [f10_drawWait_L17, if_neg e1, if_neg e2, hs i (by omega), x_bp, x_lt, nI_1]; exact r2⟩
theorem c_alone {H : Nat → Hp} (hs : ∀ i, i < 99 → f10_passMinute K1 n c (H i) = some (H (i + 1))) : ∀ (d i fu : Nat), i + d = 99 → d < fu → f10_askAlone_L18 K1 n c fu (nI i) (H i) = some (H 99) := by
  intro d
  induction d with
  | zero =>
    intro i fu hi hf
    obtain ⟨fu, rfl⟩ : ∃ g, fu = g + 1 := ⟨fu - 1, by omega⟩
    rw [show i = 99 by omega]
    have e1 : (99 : Int32) ≤ nI 99 := by decide
    simp only [f10_askAlone_L18, if_pos e1]
  | succ d ih =>
    intro i fu hi hf
    obtain ⟨fu, rfl⟩ : ∃ g, fu = g + 1 := ⟨fu - 1, by omega⟩
    have e1 : ¬ (99 : Int32) ≤ nI i := by rw [l_99]; exact nI_ge (by omega) (by omega)
    simp only [f10_askAlone_L18, if_neg e1, hs i (by omega), x_bp, x_lt, nI_1]
    exact ih (i + 1) fu (by omega) (by omega)
theorem c_hasNode {x : Nat} (v : vN o h1 N) (ok : nOk N) (hx : x < 1000) : f2_hasNode o (nI x) h1 = if x < N 0 then 1 else 0 := by
  have b0 := ok.1
  unfold f2_hasNode
  rw [if_neg (nI_pos (by omega)), v.1 0 (by omega)]
  simp only [x_le (show N 0 < 2147483648 by omega) (show x < 2147483648 by omega)]
  by_cases hc : x < N 0
  · rw [if_neg (by omega), if_pos hc]
  · rw [if_pos (by omega), if_neg hc]
theorem m_isNode {x : Nat} (nn : h2.1 m 23 = nI (N 0)) (ok : nOk N) (hx : x < 1000) : f11_isNode K2 n m (nI x) h2 = some (if x < N 0 then 1 else 0) := by
  have b0 := ok.1
  have e1 : f11_in (nI x) 0 (nI (N 0) - 1) = if x < N 0 then 1 else 0 := by
    rw [x_sub1 (by omega)]
    unfold f11_in
    rw [if_neg (nI_pos (by omega))]
    simp only [x_lt' (show N 0 - 1 < 2147483648 by omega) (show x < 2147483648 by omega)]
    by_cases hc : x < N 0
    · rw [if_neg (by omega), if_pos hc]
    · rw [if_pos (by omega), if_neg hc]
  unfold f11_isNode
  rw [nn, e1]
  by_cases hc : x < N 0
  · rw [if_pos hc]; rfl
  · rw [if_neg hc]; rfl
theorem WW.d {x : Int32} (V : WW K1 c h1 o m h2 j N aw kb st) (hx : dOk x) : WW K1 c (sI h1 c 3 x) o m (sI h2 m 26 x) j N aw kb (q_d st x) := by
  obtain ⟨⟨vc, vm, I⟩, -⟩ := V
  have ch1 : Ch [12] c h1 (sI h1 c 3 x) := Ch.I 12 rg_c3 (by simp) Ch.rf
  have ch2 : ChM [126] m h2 (sI h2 m 26 x) := ChM.F (by simp) ChM.rf
  refine ⟨⟨?_, ?_, I⟩, hx⟩
  · obtain ⟨v1, v2, v3, v4, v5, v6, v7, v8, v9, v10⟩ := vc
    exact ⟨v1.kp ch1 (by simp) (by simp), now_kp v2 ch1 (by simp), by rw [rI_e]; rfl, v4.kp ch1 (by simp), v5.kp ch1 (by simp), v6.kp ch1 (by simp), v7.kp ch1 (by simp), v8.kp ch1 (by simp), v9.kp ch1 (by simp), v10.kp ch1 (by simp)⟩
  · obtain ⟨v1, v2, v3, v4, v5, v6, v7, v8, v9, v10⟩ := vm
    exact ⟨v1.kp ch2 (by decide), mnow_kp v2 ch2 (by decide), by rw [rI_e]; rfl, v4.kp ch2 (by decide) (by decide), v5.kp ch2 (by decide) (by decide), v6.kp ch2 (by decide), v7.kp ch2 (by decide), v8.kp ch2 (by decide), v9.kp ch2 (by decide), v10.kp ch2 (by decide)⟩
theorem dOk_x {x : Int32} {l : Nat} (hx : dOk x) (hl : l < 15) : dOk (x ^^^ ((1 : Int32) <<< (nI l &&& 31))) := fun k hk => by
  rw [bI_xor (by omega)] at hk
  by_cases e : l = k
  · omega
  · simp [e] at hk; exact hx k hk
/-- a link is cut or mended -/
theorem both_chg {a b : Nat} {kd : Int32} (ok : nOk N) (ha : a < 6) (hb : b < 6) (hk : kd = 3 ∨ kd = 4) (V : WW K1 c h1 o m h2 j N aw kb st) : ∃ (y : Int32) (h1' h2' : Hp) (st' : St), (bp (f2_linkBetween K1 n o (nI a) (nI b) h1) fun y13 => f10_perform_J156 K1 n c kd y13 (if y13 = (-1 : Int32) then (0 : Int32) else (if ((h1.1 c 3) &&& ((1 : Int32) <<< (y13 &&& 31))) = 0 then (0 : Int32) else (1 : Int32))) h1) = some (y, h1') ∧ f11_changes K2 n m (nI a) (nI b) (if kd = 3 then 1 else 0) h2 = some (y, h2') ∧ (y = 0 ∨ y = 1) ∧ WW K1 c h1' o m h2' j N aw kb st' ∧ s_n st' = s_n st ∧ (∀ k, s_B st' k 8 = s_B st k 8) ∧ Ch RC c h1 h1' ∧ ChM RY m h2 h2' := by
  have b0 := ok.1
  have b2 := ok.2.2.1
  obtain ⟨⟨vc, vm, I⟩, dk⟩ := id V
  obtain ⟨⟨n1, n2, n3, n4⟩, n5⟩ := id vc.1
  have nn : h2.1 m 23 = nI (N 0) := vm.1.1.2.2.1
  have no : (bp (f2_linkBetween K1 n o (nI a) (nI b) h1) fun y13 => f10_perform_J156 K1 n c kd y13 (if y13 = (-1 : Int32) then (0 : Int32) else (if ((h1.1 c 3) &&& ((1 : Int32) <<< (y13 &&& 31))) = 0 then (0 : Int32) else (1 : Int32))) h1) = some (0, h1) → f11_changes K2 n m (nI a) (nI b) (if kd = 3 then 1 else 0) h2 = some (0, h2) → ∃ (y : Int32) (h1' h2' : Hp) (st' : St), (bp (f2_linkBetween K1 n o (nI a) (nI b) h1) fun y13 => f10_perform_J156 K1 n c kd y13 (if y13 = (-1 : Int32) then (0 : Int32) else (if ((h1.1 c 3) &&& ((1 : Int32) <<< (y13 &&& 31))) = 0 then (0 : Int32) else (1 : Int32))) h1) = some (y, h1') ∧ f11_changes K2 n m (nI a) (nI b) (if kd = 3 then 1 else 0) h2 = some (y, h2') ∧ (y = 0 ∨ y = 1) ∧ WW K1 c h1' o m h2' j N aw kb st' ∧ s_n st' = s_n st ∧ (∀ k, s_B st' k 8 = s_B st k 8) ∧ Ch RC c h1 h1' ∧ ChM RY m h2 h2' := fun q1 q2 => ⟨0, h1, h2, st, q1, q2, Or.inl rfl, V, rfl, fun _ => rfl, Ch.rf, ChM.rf⟩
  have e0 : nI a * (6 : Int32) + nI b = nI (6 * a + b) := by rw [l_6, pk_mul, nI_add, Nat.mul_comm]
  have e1 : (6 : Int32) * nI a + nI b = nI (6 * a + b) := by rw [l_6, pk_mul, nI_add]
  have e2 : inb (nI (6 * a + b)) 36 = true := x_in (by omega) (by omega)
  have e3 : (nI (6 * a + b)).toNatClampNeg = 6 * a + b := x_cl (by omega)
  by_cases hab : a < N 0 ∧ b < N 0
  · have lb : f2_linkBetween K1 n o (nI a) (nI b) h1 = some (oI (lk0 N (6 * a + b))) := by
      unfold f2_linkBetween
      rw [c_hasNode n3 ok (by omega), c_hasNode n3 ok (by omega), if_pos hab.1, if_pos hab.2, if_neg b_10, if_neg b_10, e0, e2, x_gd, e3, n3.2.2.2.1 _ (by omega)]
    have mc : f11_changes K2 n m (nI a) (nI b) (if kd = 3 then 1 else 0) h2 = f11_changes_J31 K2 n m (if kd = 3 then 1 else 0) (oI (lkA N aw (6 * a + b))) h2 := by
      unfold f11_changes
      rw [m_isNode nn ok (by omega), m_isNode nn ok (by omega), if_pos hab.1, if_pos hab.2, x_bp, if_neg b_10, x_bp, if_neg b_10, e1, e2, x_gd, e3, vm.1.2 _ (by omega)]
    rw [lb, mc] at no ⊢
    cases hq : lk0 N (6 * a + b) with
    | none =>
      rw [hq] at no
      refine no ?_ ?_
      · rw [x_bp]; unfold f10_perform_J156; rfl
      · have : lkA N aw (6 * a + b) = none := by unfold lkA; rw [hq]
        rw [this]; unfold f11_changes_J31; rfl
    | some l =>
      rw [hq] at no
      have hl := (lk0_lt hq).1
      have e5 : ¬ nI l = -1 := by rw [x_nm1 (by omega)]; exact not_false
      by_cases haw : nI l = aw
      · refine no ?_ ?_
        · rw [x_bp]; unfold f10_perform_J156
          simp only [oI, if_neg e5, n4, if_pos haw]
        · have : lkA N aw (6 * a + b) = none := by unfold lkA; rw [hq]; simp [haw]
          rw [this]; unfold f11_changes_J31; rfl
      · have la : lkA N aw (6 * a + b) = some l := by unfold lkA; rw [hq]; simp [haw]
        rw [la] at no ⊢
        have cJ : (bp (some (oI (some l))) fun y13 => f10_perform_J156 K1 n c kd y13 (if y13 = (-1 : Int32) then (0 : Int32) else (if ((h1.1 c 3) &&& ((1 : Int32) <<< (y13 &&& 31))) = 0 then (0 : Int32) else (1 : Int32))) h1) = if (if bI (s_d st) l = true then (1 : Int32) else 0) = (if kd = 4 then 1 else 0) then some (1, sI h1 c 3 (s_d st ^^^ ((1 : Int32) <<< (nI l &&& 31)))) else some (0, h1) := by
          rw [x_bp]
          unfold f10_perform_J156 f10_perform_J186
          simp only [oI, if_neg e5, n4, if_neg haw, vc.2.2.1, cI (show l < 32 by omega), x_lt]
          by_cases hb2 : bI (s_d st) l = true <;> simp [hb2]
        have mJ : f11_changes_J31 K2 n m (if kd = 3 then 1 else 0) (oI (some l)) h2 = if (if bI (s_d st) l = true then (1 : Int32) else 0) = (if kd = 3 then 1 else 0) then some (0, h2) else some (1, sI h2 m 26 (if (if kd = (3 : Int32) then (1 : Int32) else 0) = 0 then (s_d st &&& (((1 : Int32) <<< (nI l &&& 31)) ^^^ (-1 : Int32))) else (s_d st ||| ((1 : Int32) <<< (nI l &&& 31))))) := by
          unfold f11_changes_J31 f11_changes_J82
          simp only [oI, if_neg e5, vm.2.2.1, mhas (show l < 32 by omega), x_lt]
        rw [cJ, mJ] at no ⊢
        have yes : ∀ x, x = s_d st ^^^ ((1 : Int32) <<< (nI l &&& 31)) → ∃ (y : Int32) (h1' h2' : Hp) (st' : St), some ((1 : Int32), sI h1 c 3 (s_d st ^^^ ((1 : Int32) <<< (nI l &&& 31)))) = some (y, h1') ∧ some ((1 : Int32), sI h2 m 26 x) = some (y, h2') ∧ (y = 0 ∨ y = 1) ∧ WW K1 c h1' o m h2' j N aw kb st' ∧ s_n st' = s_n st ∧ (∀ k, s_B st' k 8 = s_B st k 8) ∧ Ch RC c h1 h1' ∧ ChM RY m h2 h2' := fun x hx => by
          subst hx
          exact ⟨1, _, _, _, rfl, rfl, Or.inr rfl, V.d (dOk_x dk (by omega)), rfl, fun _ => rfl, Ch.I 12 rg_c3 (by decide) Ch.rf, ChM.F (by decide) ChM.rf⟩
        rcases hk with rfl | rfl
        · have k34 : ¬ (3 : Int32) = 4 := by decide
          by_cases hb2 : bI (s_d st) l = true
          · exact no (by rw [if_pos hb2, if_neg k34, if_neg b_10]) (by rw [if_pos hb2, if_pos rfl, if_pos rfl])
          · rw [if_neg hb2, if_neg k34, if_pos rfl, if_pos rfl, if_neg (by decide), if_neg (by decide)]
            exact yes _ (x_cut (by omega) (by simpa using hb2))
        · have k43 : ¬ (4 : Int32) = 3 := by decide
          by_cases hb2 : bI (s_d st) l = true
          · rw [if_pos hb2, if_pos rfl, if_pos rfl, if_neg k43, if_neg b_10, if_pos rfl]
            exact yes _ (x_mend (by omega) hb2)
          · exact no (by rw [if_neg hb2, if_pos rfl, if_neg (by decide)]) (by rw [if_neg hb2, if_neg k43, if_pos rfl])
  · refine no ?_ ?_
    · have lb : f2_linkBetween K1 n o (nI a) (nI b) h1 = some (-1) := by
        unfold f2_linkBetween
        rw [c_hasNode n3 ok (by omega), c_hasNode n3 ok (by omega)]
        by_cases h3 : a < N 0
        · rw [if_pos h3, if_neg b_10, if_neg (fun hh => hab ⟨h3, hh⟩), if_pos rfl]
        · rw [if_neg h3, if_pos rfl]
      rw [lb, x_bp]; unfold f10_perform_J156; rfl
    · unfold f11_changes
      rw [m_isNode nn ok (by omega), m_isNode nn ok (by omega), x_bp]
      by_cases h3 : a < N 0
      · rw [if_pos h3, if_neg b_10, if_neg (fun hh => hab ⟨h3, hh⟩), x_bp, if_pos rfl]
        rfl
      · rw [if_neg h3, if_pos rfl]; rfl
/-- one deed -/
theorem both_deed {r q k : Nat} {R : Nat → Int32} (ok : nOk N) (kc : KC K1 c) (hn : 5000 ≤ n) (ro : rOk q R) (hk : k < q) (hr : r + 4 ≤ c) (vr : vR r h1 q R) (V : WW K1 c h1 o m h2 j N aw k st) : ∃ (y : Int32) (h1' h2' : Hp) (st' : St), f10_perform K1 n c r (nI k) h1 = some (y, h1') ∧ f11_does K2 n m (R (1 + 3 * k)) (R (2 + 3 * k)) (R (3 + 3 * k)) (nI k) h2 = some (y, h2') ∧ (y = 0 ∨ y = 1) ∧ WW K1 c h1' o m h2' j N aw (k + 1) st' ∧ (y = 1 → ∀ k', s_B st' k' 8 = 1 ↔ (s_B st k' 8 = 1 ∨ (k' = k ∧ isA R k))) ∧ (y = 0 → ∀ k', s_B st' k' 8 = s_B st k' 8) ∧ Ch RC c h1 h1' ∧ ChM RY m h2 h2' := by
  have b0 := ok.1
  have q40 := ro.1
  obtain ⟨⟨vc, vm, I⟩, dk⟩ := id V
  obtain ⟨⟨n1, n2, n3, n4⟩, n5⟩ := id vc.1
  have nn : h2.1 m 23 = nI (N 0) := vm.1.1.2.2.1
  have i2 : inb (nI k) 40 = true := x_in (by omega) (by omega)
  have i3 : (nI k).toNatClampNeg = k := x_cl (by omega)
  obtain ⟨r1, r2, r3⟩ := vr.2 k hk
  have V1 := V.up (kb' := k + 1) (by omega) (by omega)
  have pre : f10_perform K1 n c r (nI k) h1 = if R (1 + 3 * k) = 0 then (
    f10_perform_J34 K1 n c (nI k) (R (2 + 3 * k)) (R (3 + 3 * k)) (R (1 + 3 * k)) h1)
    else (
    if R (1 + 3 * k) = (1 : Int32) then (
    f10_perform_J34 K1 n c (nI k) (R (2 + 3 * k)) (R (3 + 3 * k)) (R (1 + 3 * k)) h1)
    else (
    if R (1 + 3 * k) = (2 : Int32) then (
    f10_perform_L85 K1 n c (R (2 + 3 * k)) (nI (s_n st) + R (2 + 3 * k)) n (0 : Int32) h1)
    else (
    bp (f2_linkBetween K1 n o (R (2 + 3 * k)) (R (3 + 3 * k)) h1) fun y13 =>
    f10_perform_J156 K1 n c (R (1 + 3 * k)) y13 (if y13 = (-1 : Int32) then (0 : Int32) else (if ((h1.1 c 3) &&& ((1 : Int32) <<< (y13 &&& 31))) = 0 then (0 : Int32) else (1 : Int32))) h1))) := by
    simp only [f10_perform, i2, i3, x_gd, x_lt, r1, r2, r3, n1, x_ob n2, vc.2.1]
  rw [pre]
  rcases ro.2 k hk with ⟨hA, ⟨x, x1, x2⟩, y, y1, y2, y3⟩ | ⟨hW, x, x1, x2, x3⟩ | ⟨hC, ⟨x, x1, x2⟩, y, y1, y2⟩
  · -- an ask
    have hw : ∃ ws : Int32, (if R (1 + 3 * k) = 1 then (1 : Int32) else 0) = ws ∧ R (1 + 3 * k) = ws := by
      rcases hA with hA | hA
      · exact ⟨0, by rw [hA, if_neg (by decide)], hA⟩
      · exact ⟨1, by rw [hA, if_pos rfl], hA⟩
    obtain ⟨ws, w1, w2⟩ := hw
    have cJ : (if R (1 + 3 * k) = 0 then (
    f10_perform_J34 K1 n c (nI k) (R (2 + 3 * k)) (R (3 + 3 * k)) (R (1 + 3 * k)) h1)
    else (
    if R (1 + 3 * k) = (1 : Int32) then (
    f10_perform_J34 K1 n c (nI k) (R (2 + 3 * k)) (R (3 + 3 * k)) (R (1 + 3 * k)) h1)
    else (
    if R (1 + 3 * k) = (2 : Int32) then (
    f10_perform_L85 K1 n c (R (2 + 3 * k)) (nI (s_n st) + R (2 + 3 * k)) n (0 : Int32) h1)
    else (
    bp (f2_linkBetween K1 n o (R (2 + 3 * k)) (R (3 + 3 * k)) h1) fun y13 =>
    f10_perform_J156 K1 n c (R (1 + 3 * k)) y13 (if y13 = (-1 : Int32) then (0 : Int32) else (if ((h1.1 c 3) &&& ((1 : Int32) <<< (y13 &&& 31))) = 0 then (0 : Int32) else (1 : Int32))) h1)))) = if x < N 0 then bp (f10_ask K1 n c (nI k) (nI x) (nI y) ws h1) fun h28 => some ((1 : Int32), h28) else some (0, h1) := by
      have z : f10_perform_J34 K1 n c (nI k) (R (2 + 3 * k)) (R (3 + 3 * k)) (R (1 + 3 * k)) h1 = if x < N 0 then bp (f10_ask K1 n c (nI k) (nI x) (nI y) ws h1) fun h28 => some ((1 : Int32), h28) else some (0, h1) := by
        unfold f10_perform_J34 f10_perform_J63
        rw [n1, x_ob n2, x2, y3, c_hasNode n3 ok (by omega), w1]
        by_cases hx : x < N 0
        · rw [if_pos hx, if_neg b_10, if_pos hx]
        · rw [if_neg hx, if_pos rfl, if_neg hx]
      rcases hA with hA | hA
      · rw [if_pos hA]; exact z
      · rw [if_neg (by rw [hA]; decide), if_pos hA]; exact z
    have mJ : f11_does K2 n m (R (1 + 3 * k)) (R (2 + 3 * k)) (R (3 + 3 * k)) (nI k) h2 = bd (f11_asks K2 n m (nI x) (nI y) ws (nI k) h2) fun y12 h11 => gd (isB y12) <| some (y12, h11) := by
      unfold f11_does f11_does_J28
      rw [x2, y3]
      rcases hA with hA | hA
      · rw [if_pos hA, w2]
      · rw [if_neg (by rw [hA]; decide), if_pos hA, w2]
    rw [cJ, mJ]
    by_cases hx : x < N 0
    · obtain ⟨h1', h2', st', a1, a2, a3, a4, a5, a6, a7, a8⟩ := both_ask (K2 := K2) (ws := ws) ok kc hn (show k < 60 by omega) hx y2 V.1
      refine ⟨1, h1', h2', st', by rw [if_pos hx, a1, x_bp], by rw [a2, x_bd]; rfl, Or.inr rfl, ⟨a3, by rw [a5]; exact dk⟩, fun _ k' => ?_, fun hh => absurd hh (by decide), a7, a8⟩
      rw [a6 k']
      by_cases hkk : k' = k
      · rw [if_pos hkk]; exact ⟨fun _ => Or.inr ⟨hkk, hA⟩, fun _ => rfl⟩
      · rw [if_neg hkk]; exact ⟨Or.inl, fun hh => hh.elim id (fun hh => absurd hh.1 hkk)⟩
    · refine ⟨0, h1, h2, st, by rw [if_neg hx], ?_, Or.inl rfl, V1, fun hh => absurd hh (by decide), fun _ _ => rfl, Ch.rf, ChM.rf⟩
      unfold f11_asks
      rw [m_isNode nn ok (by omega), if_neg hx, x_bp, if_pos rfl, x_bd]; rfl
  · -- minutes
    have z0 : ¬ R (1 + 3 * k) = 0 := by rw [hW]; decide
    have z1 : ¬ R (1 + 3 * k) = 1 := by rw [hW]; decide
    have nA : ¬ isA R k := fun hh => hh.elim z0 z1
    have nw := I.2.1
    rw [if_neg z0, if_neg z1, if_pos hW, x3, nI_add]
    have mJ : f11_does K2 n m (R (1 + 3 * k)) (nI x) (R (3 + 3 * k)) (nI k) h2 = bd (f11_waits K2 n m (nI x) h2) fun y6 h5 => gd (isB y6) <| some (y6, h5) := by
      unfold f11_does
      rw [if_neg z0, if_neg z1, if_pos hW]
    rw [mJ]
    by_cases hl : s_n st + x ≤ 99
    · obtain ⟨H1, H2, st', b1, b2, b3, b4, b5, b6, b7, b8, b9⟩ := both_mins (K2 := K2) ok kc hn x h1 h2 st hl V1
      have cw := (c_waits (K1 := K1) (n := n) (c := c) (t := x) (u := s_n st + x) (by omega) hl (fun i hi => (b3 i hi).1) x 0 n (by omega) (by omega)).1
      have mw := m_waits (K2 := K2) (n := n) (m := m) (t := x) (by omega) (fun i hi => (b3 i hi).2) x 0 n (by omega) (by omega)
      rw [b1] at cw
      rw [b2] at mw
      refine ⟨1, H1 x, H2 x, st', cw, ?_, Or.inr rfl, b4, fun _ k' => ?_, fun hh => absurd hh (by decide), b8, b9⟩
      · have e1 : nI (s_n st + x) ≤ (99 : Int32) := by rw [l_99]; exact nI_le hl (by omega)
        unfold f11_waits
        rw [vm.2.1, nI_add, if_pos e1]
        have mw : f11_waits_L15 K2 n m (nI x) n 0 h2 = some (1, H2 x) := mw
        rw [mw, x_bd]; rfl
      · rw [b7 k']; exact ⟨Or.inl, fun hh => hh.elim id (fun hh => absurd hh.2 nA)⟩
    · refine ⟨0, h1, h2, st, ?_, ?_, Or.inl rfl, V1, fun hh => absurd hh (by decide), fun _ _ => rfl, Ch.rf, ChM.rf⟩
      · obtain ⟨n', rfl⟩ : ∃ g, n = g + 1 := ⟨n - 1, by omega⟩
        have e1 : (99 : Int32) < nI (s_n st + x) := by rw [l_99]; exact nI_lt (by omega) (by omega)
        have e2 : ¬ nI x ≤ (0 : Int32) := nI_nle (by omega) (by omega)
        simp only [f10_perform_L85, if_neg e2, if_pos e1, f10_perform_J108]
      · have e1 : ¬ nI (s_n st + x) ≤ (99 : Int32) := by rw [l_99]; exact nI_ge (by omega) (by omega)
        unfold f11_waits
        rw [vm.2.1, nI_add, if_neg e1, x_bd]; rfl
  · -- a link
    have z0 : ¬ R (1 + 3 * k) = 0 := by rcases hC with hC | hC <;> (rw [hC]; decide)
    have z1 : ¬ R (1 + 3 * k) = 1 := by rcases hC with hC | hC <;> (rw [hC]; decide)
    have z2 : ¬ R (1 + 3 * k) = 2 := by rcases hC with hC | hC <;> (rw [hC]; decide)
    have nA : ¬ isA R k := fun hh => hh.elim z0 z1
    rw [if_neg z0, if_neg z1, if_neg z2, x2, y2]
    have mJ : f11_does K2 n m (R (1 + 3 * k)) (nI x) (nI y) (nI k) h2 = bd (f11_changes K2 n m (nI x) (nI y) (if R (1 + 3 * k) = 3 then 1 else 0) h2) fun y16 h15 => gd (isB y16) <| some (y16, h15) := by
      unfold f11_does f11_does_J57
      rw [if_neg z0, if_neg z1, if_neg z2]
    rw [mJ]
    obtain ⟨yy, h1', h2', st', a1, a2, a3, a4, a5, a6, a7, a8⟩ := both_chg (K2 := K2) (n := n) ok x1 y1 hC V1
    refine ⟨yy, h1', h2', st', a1, ?_, a3, a4, fun _ k' => ?_, fun _ k' => a6 k', a7, a8⟩
    · rw [a2, x_bd]
      rcases a3 with rfl | rfl <;> rfl
    · rw [a6 k']; exact ⟨Or.inl, fun hh => hh.elim id (fun hh => absurd hh.2 nA)⟩
/-- all entries, counted by the reference -/
theorem m_all {L : List En} (ok : nOk N) (nn : h2.1 m 23 = nI (N 0)) (v : mvE m h2 L) (hn : 20 ≤ n) (hL : ∀ e ∈ L, ∃ nd, nd < N 0 ∧ e.1 0 = nI nd) : f11_entriesAll K2 n m h2 = some (nI L.length) := by
  have b0 := ok.1
  have go : ∀ (d x s fu : Nat), x + d = N 0 → d < fu → f11_entriesAll_L4 K2 n m h2 fu (nI s) (nI x) = some (nI (s + ((List.range d).map (fun i => (L.filter (atN (x + i))).length)).sum)) := by
    intro d
    induction d with
    | zero =>
      intro x s fu hx hf
      obtain ⟨fu, rfl⟩ : ∃ g, fu = g + 1 := ⟨fu - 1, by omega⟩
      have e1 : nI (N 0) ≤ nI x := nI_le (by omega) (by omega)
      simp only [f11_entriesAll_L4, nn, if_pos e1]
      simp
    | succ d ih =>
      intro x s fu hx hf
      obtain ⟨fu, rfl⟩ : ∃ g, fu = g + 1 := ⟨fu - 1, by omega⟩
      have e1 : ¬ nI (N 0) ≤ nI x := nI_ge (by omega) (by omega)
      have e2 : inb (nI x) 6 = true := x_in (by omega) (by omega)
      have e3 : (nI x).toNatClampNeg = x := x_cl (by omega)
      simp only [f11_entriesAll_L4, nn, if_neg e1, e2, e3, x_gd, (v x (by omega)).1, x_lt, nI_1, nI_add]
      rw [ih (x + 1) (s + (L.filter (atN x)).length) fu (by omega) (by omega)]
      congr 2
      rw [List.range_succ_eq_map, List.map_cons, List.sum_cons, List.map_map]
      have : (List.range d).map ((fun i => (L.filter (atN (x + i))).length) ∘ Nat.succ) = (List.range d).map (fun i => (L.filter (atN (x + 1 + i))).length) := by
        refine List.map_congr_left (fun i _ => ?_)
        show (L.filter (atN (x + (i + 1)))).length = _
        rw [show x + (i + 1) = x + 1 + i by omega]
      rw [this]
      simp only [Nat.add_zero]; omega
  have := go (N 0) 0 0 n (by omega) (by omega)
  unfold f11_entriesAll
  have this : f11_entriesAll_L4 K2 n m h2 n 0 0 = _ := this
  rw [this]
  congr 2
  have lf := len_flt (L := L) (fun e he => by
    obtain ⟨x, x1, x2⟩ := hL e he
    exact ⟨x, by omega, x2⟩)
  have z : ∀ x, N 0 ≤ x → x < 6 → (L.filter (atN x)).length = 0 := fun x h1 h2 => by
    rw [List.filter_eq_nil_iff.mpr (fun e he => by
      obtain ⟨y, y1, y2⟩ := hL e he
      rw [atN_x y2 h2 (by omega)]; simp; omega)]; rfl
  have z1 := z 1
  have z2 := z 2
  have z3 := z 3
  have z4 := z 4
  have z5 := z 5
  rw [Nat.zero_add, lf]
  have hN : N 0 = 1 ∨ N 0 = 2 ∨ N 0 = 3 ∨ N 0 = 4 ∨ N 0 = 5 ∨ N 0 = 6 := by omega
  rcases hN with hN | hN | hN | hN | hN | hN <;> rw [hN] <;> simp [List.range_succ] <;> omega
end Deeds
