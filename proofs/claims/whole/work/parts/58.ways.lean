/-! links laid by the reference; the best way, by the class and by the reference -/
def lkd (N : Nat → Nat) (aw : Int32) (i d : Nat) : Option Nat := match fN (mL N i) 0 d with
  | none => none
  | some l => if nI l = aw then none else some l
theorem mL_u {N : Nat → Nat} (ok : nOk N) {i l l' : Nat} (hl : l < N 2) (h' : l' < l) (h1 : mL N i l = true) (h2 : mL N i l' = true) : False := by
  obtain ⟨a1, a2, -⟩ := ok.2.2.2.2.2.2.1 l hl
  obtain ⟨c1, c2, -⟩ := ok.2.2.2.2.2.2.1 l' (by omega)
  obtain ⟨u1, u2⟩ := ok.2.2.2.2.2.2.2.1 l hl l' h'
  have b := ok.1
  simp only [mL, Bool.or_eq_true, beq_iff_eq] at h1 h2
  rcases h1 with h1 | h1 <;> rcases h2 with h2 | h2
  · exact u1 ⟨by omega, by omega⟩
  · exact u2 ⟨by omega, by omega⟩
  · exact u2 ⟨by omega, by omega⟩
  · exact u1 ⟨by omega, by omega⟩
theorem lkd_st {N : Nat → Nat} (ok : nOk N) {aw : Int32} {i d : Nat} (hd : d < N 2) : lkd N aw i (d + 1) = if mL N i d = true then (if nI d = aw then none else some d) else lkd N aw i d := by
  unfold lkd
  rw [fN_succ]
  by_cases hc : mL N i d = true
  · rw [if_pos hc]
    have : fN (mL N i) 0 d = none := fN_none_of (fun l _ hl => by
      cases hq : mL N i l with
      | false => rfl
      | true => exact (mL_u ok hd (by omega) hc hq).elim)
    rw [this]
    simp [hc]
  · rw [if_neg hc]
    simp [hc]
def Lm (m : Nat) (as : List Nat) (fs' : List Nat) (h h' : Hp) : Prop := (∀ a k, a ≠ m → ¬ a ∈ as.map (m + ·) → h'.1 a k = h.1 a k) ∧ (∀ k, ¬ k ∈ fs' → h'.1 m k = h.1 m k)
theorem oI_none : oI none = -1 := rfl
theorem oI_m1 {o : Option Nat} (ho : ∀ l, o = some l → l < 2147483648) : (oI o = -1) = (o = none) := by
  cases o with
  | none => simp [oI]
  | some l => simp only [oI, x_nm1 (ho l rfl)]; simp
section ModelLinks
variable {K : Ly} {n m j : Nat} {N : Nat → Nat}
theorem mlay1 {aw : Int32} : ∀ (d k fu : Nat) (h : Hp), k + d = 36 → d < fu → ∃ h', f11_layLinks_L2 K n m aw fu (nI k) h = f11_layLinks_L23 K n m aw n (nI 0) h' ∧ h'.2 = h.2 ∧ (∀ a i, ¬ (a = m + 11 ∧ k ≤ i ∧ i < 36) → h'.1 a i = h.1 a i) ∧ ∀ i, k ≤ i → i < 36 → h'.1 (m + 11) i = -1 := by
  intro d
  induction d with
  | zero =>
    intro k fu h hk hf
    obtain ⟨fu, rfl⟩ : ∃ g, fu = g + 1 := ⟨fu - 1, by omega⟩
    have e1 : (36 : Int32) ≤ nI k := by rw [l_36]; exact nI_le (by omega) (by omega)
    refine ⟨h, ?_, rfl, fun _ _ _ => rfl, fun i h1 h2 => by omega⟩
    simp only [f11_layLinks_L2, if_pos e1]; rfl
  | succ d ih =>
    intro k fu h hk hf
    obtain ⟨fu, rfl⟩ : ∃ g, fu = g + 1 := ⟨fu - 1, by omega⟩
    have e1 : ¬ (36 : Int32) ≤ nI k := by rw [l_36]; exact nI_ge (by omega) (by omega)
    have e2 : inb (nI k) 36 = true := x_in (by omega) (by omega)
    have e3 : (nI k).toNatClampNeg = k := x_cl (by omega)
    obtain ⟨h', q1, q2, q3, q4⟩ := ih (k + 1) fu (sI h (m + 11) k (-1)) (by omega) (by omega)
    refine ⟨h', ?_, q2, fun a i ha => ?_, fun i h1 h2 => ?_⟩
    · simp only [f11_layLinks_L2, if_neg e1, e2, e3, x_gd, x_lt, nI_1]; exact q1
    · rw [q3 a i (by omega), rI_n (by omega)]
    · by_cases hi : i = k
      · subst hi; rw [q3 _ _ (by omega), rI_e]
      · exact q4 i (by omega) h2
theorem mlay2 (ok : nOk N) {aw : Int32} : ∀ (d k fu : Nat) (h : Hp), k + d = N 2 → d < fu → vMN m h N j → (∀ i, i < 36 → h.1 (m + 11) i = oI (lkd N aw i k)) → ∃ h', f11_layLinks_L23 K n m aw fu (nI k) h = some h' ∧ h'.2 = h.2 ∧ (∀ a i, ¬ (a = m + 11 ∧ i < 36) → h'.1 a i = h.1 a i) ∧ ∀ i, i < 36 → h'.1 (m + 11) i = oI (lkd N aw i (N 2)) := by
  have hN : N 2 ≤ 15 := ok.2.2.1
  intro d
  induction d with
  | zero =>
    intro k fu h hk hf v hi
    obtain ⟨fu, rfl⟩ : ∃ g, fu = g + 1 := ⟨fu - 1, by omega⟩
    have e1 : nI (N 2) ≤ nI k := nI_le (by omega) (by omega)
    refine ⟨h, ?_, rfl, fun _ _ _ => rfl, fun i h1 => by rw [hi i h1, show k = N 2 by omega]⟩
    simp only [f11_layLinks_L23, mlinks v, x_bp, if_pos e1]
  | succ d ih =>
    intro k fu h hk hf v hi
    obtain ⟨fu, rfl⟩ : ∃ g, fu = g + 1 := ⟨fu - 1, by omega⟩
    have e1 : ¬ nI (N 2) ≤ nI k := nI_ge (by omega) (by omega)
    obtain ⟨c1, c2, c3, -⟩ := ok.2.2.2.2.2.2.1 k (by omega)
    have b0 := ok.1
    have keep : ∀ h' : Hp, (∀ a i, ¬ (a = m + 11 ∧ i < 36) → h'.1 a i = h.1 a i) → vMN m h' N j := fun h' q => ⟨v.1, (q _ _ (by omega)).trans v.2.1, (q _ _ (by omega)).trans v.2.2.1, (q _ _ (by omega)).trans v.2.2.2.1, fun i hi => (q _ _ (by omega)).trans (v.2.2.2.2 i hi)⟩
    by_cases ha : nI k = aw
    · obtain ⟨h', q1, q2, q3, q4⟩ := ih (k + 1) fu h (by omega) (by omega) v (fun i h1 => by
        rw [hi i h1, lkd_st ok (by omega), if_pos ha]
        by_cases hc : mL N i k = true
        · rw [if_pos hc]
          unfold lkd
          rw [show fN (mL N i) 0 k = none from fN_none_of (fun l _ hl => by
            cases hq : mL N i l with
            | false => rfl
            | true => exact (mL_u ok (show k < N 2 by omega) (by omega) hc hq).elim)]
        · rw [if_neg hc])
      refine ⟨h', ?_, q2, q3, q4⟩
      simp only [f11_layLinks_L23, mlinks v, x_bp, if_neg e1, if_pos ha, x_lt, nI_1]; exact q1
    · have r0 := fun (h : Hp) (v : vMN m h N j) => mlinkAt (K := K) (n := n) v (l := k) (w := 0) (by omega)
      have r1 := fun (h : Hp) (v : vMN m h N j) => mlinkAt (K := K) (n := n) v (l := k) (w := 1) (by omega)
      rw [show 11 + 3 * k + 0 = 11 + 3 * k by omega] at r0
      rw [show 11 + 3 * k + 1 = 12 + 3 * k by omega] at r1
      have r0 : ∀ (h : Hp) (v : vMN m h N j), f11_linkAt K n m (nI k) (0 : Int32) h = some (nI (N (11 + 3 * k))) := r0
      have r1 : ∀ (h : Hp) (v : vMN m h N j), f11_linkAt K n m (nI k) (1 : Int32) h = some (nI (N (12 + 3 * k))) := r1
      have e3 : (6 : Int32) * nI (N (11 + 3 * k)) + nI (N (12 + 3 * k)) = nI (6 * N (11 + 3 * k) + N (12 + 3 * k)) := by rw [l_6, pk_mul, nI_add]
      have e4 : (6 : Int32) * nI (N (12 + 3 * k)) + nI (N (11 + 3 * k)) = nI (6 * N (12 + 3 * k) + N (11 + 3 * k)) := by rw [l_6, pk_mul, nI_add]
      have v1 : vMN m (sI h (m + 11) (6 * N (11 + 3 * k) + N (12 + 3 * k)) (nI k)) N j := keep _ (fun a i ha => rI_n (by omega))
      obtain ⟨h', q1, q2, q3, q4⟩ := ih (k + 1) fu (sI (sI h (m + 11) (6 * N (11 + 3 * k) + N (12 + 3 * k)) (nI k)) (m + 11) (6 * N (12 + 3 * k) + N (11 + 3 * k)) (nI k)) (by omega) (by omega) (keep _ (fun a i ha => by rw [rI_n (by omega), rI_n (by omega)])) (fun i h1 => by
        rw [lkd_st ok (by omega), if_neg ha]
        by_cases hc : mL N i k = true
        · rw [if_pos hc]
          simp only [mL, Bool.or_eq_true, beq_iff_eq] at hc
          by_cases h5 : i = 6 * N (12 + 3 * k) + N (11 + 3 * k)
          · rw [h5, rI_e]; rfl
          · rw [rI_n (by omega), show i = 6 * N (11 + 3 * k) + N (12 + 3 * k) by omega, rI_e]; rfl
        · rw [if_neg hc]
          simp only [mL, Bool.or_eq_true, beq_iff_eq, not_or] at hc
          rw [rI_n (by omega), rI_n (by omega), hi i h1])
      refine ⟨h', ?_, q2, fun a i ha => ?_, q4⟩
      · simp only [f11_layLinks_L23, mlinks v, x_bp, if_neg e1, if_neg ha, r0 h v, r1 h v, e3, x_in (show 6 * N (11 + 3 * k) + N (12 + 3 * k) < 36 by omega) (by omega), x_gd, x_lt, x_cl (show 6 * N (11 + 3 * k) + N (12 + 3 * k) < 2147483648 by omega), r0 _ v1, r1 _ v1, e4, x_in (show 6 * N (12 + 3 * k) + N (11 + 3 * k) < 36 by omega) (by omega), x_cl (show 6 * N (12 + 3 * k) + N (11 + 3 * k) < 2147483648 by omega), nI_1]
        exact q1
      · rw [q3 a i ha, rI_n (by omega), rI_n (by omega)]
theorem mlayLinks (ok : nOk N) {h : Hp} (v : vMN m h N j) (aw : Int32) (hn : 40 ≤ n) : ∃ h', f11_layLinks K n m aw h = some h' ∧ h'.2 = h.2 ∧ (∀ a i, ¬ (a = m + 11 ∧ i < 36) → h'.1 a i = h.1 a i) ∧ ∀ i, i < 36 → h'.1 (m + 11) i = oI (lkA N aw i) := by
  have hN : N 2 ≤ 15 := ok.2.2.1
  obtain ⟨h1, a1, a2, a3, a4⟩ := mlay1 (K := K) (n := n) (m := m) (aw := aw) 36 0 n h (by omega) (by omega)
  have v1 : vMN m h1 N j := ⟨v.1, (a3 _ _ (by omega)).trans v.2.1, (a3 _ _ (by omega)).trans v.2.2.1, (a3 _ _ (by omega)).trans v.2.2.2.1, fun i hi => (a3 _ _ (by omega)).trans (v.2.2.2.2 i hi)⟩
  obtain ⟨h2, b1, b2, b3, b4⟩ := mlay2 (K := K) (n := n) (m := m) ok (aw := aw) (N 2) 0 n h1 (by omega) (by omega) v1 (fun i hi => a4 i (by omega) hi)
  refine ⟨h2, ?_, b2.trans a2, fun a i ha => (b3 a i ha).trans (a3 a i (by omega)), b4⟩
  unfold f11_layLinks
  exact a1.trans b1
theorem misUp {h : Hp} {aw dn : Int32} (ok : nOk N) (hl : ∀ i, i < 36 → h.1 (m + 11) i = oI (lkA N aw i)) (hd : h.1 m 26 = dn) {a b : Nat} (hi : 6 * a + b < 36) : f11_isUp K n m (nI a) (nI b) h = some (if (upL N aw dn (6 * a + b)).isSome = true then 1 else 0) := by
  have hN : N 2 ≤ 15 := ok.2.2.1
  have e3 : (6 : Int32) * nI a + nI b = nI (6 * a + b) := by rw [l_6, pk_mul, nI_add]
  unfold f11_isUp
  rw [e3, x_in hi (by omega), x_gd, x_cl (by omega), x_lt, hl _ hi, hd]
  unfold upL
  cases hq : lkA N aw (6 * a + b) with
  | none => simp [oI]
  | some l =>
    have := (lkA_lt hq).1
    simp only [oI, x_nm1 (show l < 2147483648 by omega), if_false, mhas (show l < 32 by omega)]
    by_cases hb : bI dn l = true <;> simp [hb]
end ModelLinks
/-- what the class's Course knows of its net -/
def cN (K : Ly) (c : Nat) (h : Hp) (o : Nat) (N : Nat → Nat) (aw : Int32) : Prop := h.2.2 c 0 = some o ∧ K o = some (.inl 2) ∧ vN o h N ∧ h.1 c 1 = aw
def mN (m : Nat) (h : Hp) (j : Nat) (N : Nat → Nat) (aw : Int32) : Prop := vMN m h N j ∧ ∀ i, i < 36 → h.1 (m + 11) i = oI (lkA N aw i)
theorem cisUp {N : Nat → Nat} (ok : nOk N) {c i : Nat} {h : Hp} : f10_isUp c (oI (lk0 N i)) h = if (upL N (h.1 c 1) (h.1 c 3) i).isSome = true then 1 else 0 := by
  have hN : N 2 ≤ 15 := ok.2.2.1
  unfold f10_isUp upL lkA
  cases hq : lk0 N i with
  | none => simp [oI]
  | some l =>
    have := (lk0_lt hq).1
    simp only [oI, x_nm1 (show l < 2147483648 by omega), if_false, cI (show l < 32 by omega)]
    by_cases ha : nI l = h.1 c 1
    · simp [ha]
    · simp only [if_neg ha]
      by_cases hb : bI (h.1 c 3) l = true <;> simp [hb]
def b6 (b : Option (Nat × Int32)) (z : Int32) : Int32 := match b with
  | none => z
  | some q => q.2
section BestWay
variable {K : Ly} {n : Nat} {h : Hp} {N : Nat → Nat} {M : Nat → Int32} {aw dn : Int32}
theorem cbest_L {c o : Nat} (ok : nOk N) (v : cN K c h o N aw) (hd : h.1 c 3 = dn) (hm : ∀ i, i < 36 → h.1 (c + 18) i = M i) {nd w : Nat} {bar : Int32} (hnd : nd < 6) (hw : w < 531441) : ∀ (d k fu : Nat) (b : Option (Nat × Int32)), k + d = N 3 → d < fu → (∀ q, b = some q → q.1 < 6) → f10_bestWay_L20 K n c (nI nd) bar (nI w) h fu (b5 b) (b6 b 0) (nI k) = some (b5 (bwS N aw dn M nd w bar d k b)) := by
  have hN : N 3 ≤ 12 := ok.2.2.2.1
  obtain ⟨v1, v2, v3, v4⟩ := v
  have b0 := ok.1
  intro d
  induction d with
  | zero =>
    intro k fu b hk hf hb
    obtain ⟨fu, rfl⟩ : ∃ g, fu = g + 1 := ⟨fu - 1, by omega⟩
    have e1 : h.1 o 3 ≤ nI k := by rw [v3.1 3 (by omega)]; exact nI_le (by omega) (by omega)
    simp only [f10_bestWay_L20, v1, x_ob v2, if_pos e1, bwS]
  | succ d ih =>
    intro k fu b hk hf hb
    obtain ⟨fu, rfl⟩ : ∃ g, fu = g + 1 := ⟨fu - 1, by omega⟩
    have e1 : ¬ h.1 o 3 ≤ nI k := by rw [v3.1 3 (by omega)]; exact nI_ge (by omega) (by omega)
    have e2 : inb (nI k) 12 = true := x_in (by omega) (by omega)
    have e3 : (nI k).toNatClampNeg = k := x_cl (by omega)
    obtain ⟨q1, q2, q3, q4⟩ := v3.2.2.2.2.1 k (by omega)
    obtain ⟨c1, ⟨c2, c3⟩, ⟨c4, c5⟩, c6⟩ := ok.2.2.2.2.2.2.2.2.1 k (by omega)
    have e4 : nI nd * (6 : Int32) + nI (N (58 + 4 * k)) = nI (6 * nd + N (58 + 4 * k)) := by rw [l_6, pk_mul, nI_add, Nat.mul_comm]
    have e5 : inb (nI (6 * nd + N (58 + 4 * k))) 36 = true := x_in (by omega) (by omega)
    have e6 : (nI (6 * nd + N (58 + 4 * k))).toNatClampNeg = 6 * nd + N (58 + 4 * k) := x_cl (by omega)
    have e7 := v3.2.2.2.1 (6 * nd + N (58 + 4 * k)) (by omega)
    have e8 := cisUp ok (c := c) (i := 6 * nd + N (58 + 4 * k)) (h := h)
    rw [v4, hd] at e8
    have e9 := hm (6 * nd + N (58 + 4 * k)) (by omega)
    simp only [f10_bestWay_L20, v1, x_ob v2, if_neg e1, e2, e3, q1, q2, q3, q4, x_gd, x_lt, f10_bestWay_J78, f10_bestWay_J77, f10_bestWay_J154, e4, e5, e6, e7, e8, e9, nI_1, cI (show N (58 + 4 * k) < 32 by omega), x_eq (show N (56 + 4 * k) < 2147483648 by omega) (show nd < 2147483648 by omega), x_eq (show N (57 + 4 * k) < 2147483648 by omega) (show w < 2147483648 by omega), bwS]
    have no : wOk N aw dn nd w bar k = false → f10_bestWay_L20 K n c (nI nd) bar (nI w) h fu (b5 b) (b6 b 0) (nI (k + 1)) = some (b5 (bwS N aw dn M nd w bar d (k + 1) (if wOk N aw dn nd w bar k = true then bet b (N (58 + 4 * k)) (wCo N M nd k) else b))) := fun hh => by
      rw [hh]; exact ih (k + 1) fu b (by omega) (by omega) hb
    by_cases g1 : N (56 + 4 * k) = nd
    · rw [if_pos g1]
      by_cases g2 : N (57 + 4 * k) = w
      · rw [if_pos g2, if_neg b_10]
        by_cases g3 : bI bar (N (58 + 4 * k)) = false
        · rw [if_pos g3]
          by_cases g4 : (upL N aw dn (6 * nd + N (58 + 4 * k))).isSome = true
          · rw [if_pos g4, if_neg b_10]
            have hk' : wOk N aw dn nd w bar k = true := by simp [wOk, mR, g1, g2, g3, g4]
            have fin : ∀ s0 : Int32, s0 = wCo N M nd k → f10_bestWay_L20 K n c (nI nd) bar (nI w) h fu (if b5 b = (-1 : Int32) then nI (N (58 + 4 * k)) else (if s0 < b6 b 0 then nI (N (58 + 4 * k)) else (if s0 = b6 b 0 then (if b5 b ≤ nI (N (58 + 4 * k)) then b5 b else nI (N (58 + 4 * k))) else b5 b))) (if b5 b = (-1 : Int32) then s0 else (if s0 < b6 b 0 then s0 else (if s0 = b6 b 0 then (if b5 b ≤ nI (N (58 + 4 * k)) then b6 b 0 else s0) else b6 b 0))) (nI (k + 1)) = some (b5 (bwS N aw dn M nd w bar d (k + 1) (if wOk N aw dn nd w bar k = true then bet b (N (58 + 4 * k)) (wCo N M nd k) else b))) := by
              intro s0 hs
              subst hs
              rw [if_pos hk']
              have hb2 := bet_ok (c := wCo N M nd k) hb (show N (58 + 4 * k) < 6 by omega)
              have ih2 := ih (k + 1) fu (bet b (N (58 + 4 * k)) (wCo N M nd k)) (by omega) (by omega) hb2
              rw [← ih2]
              cases b with
              | none => simp [bet, b5, b6, oI]
              | some q =>
                have hq := hb q rfl
                have z1 : ¬ b5 (some q) = (-1 : Int32) := by
                  show ¬ nI q.1 = -1
                  rw [x_nm1 (by omega)]; exact not_false
                simp only [if_neg z1]
                simp only [b5, b6, bet, Option.map_some, oI, x_le (show q.1 < 2147483648 by omega) (show N (58 + 4 * k) < 2147483648 by omega)]
                by_cases p1 : wCo N M nd k < q.2
                · rw [if_pos p1, if_pos p1, if_pos (Or.inl p1)]; rfl
                · rw [if_neg p1, if_neg p1]
                  by_cases p2 : wCo N M nd k = q.2
                  · rw [if_pos p2, if_pos p2]
                    by_cases p3 : q.1 ≤ N (58 + 4 * k)
                    · rw [if_pos p3, if_pos p3, if_neg (by rintro (hh | hh); exact p1 hh; omega)]; rfl
                    · rw [if_neg p3, if_neg p3, if_pos (Or.inr ⟨p2, by omega⟩)]; rfl
                  · rw [if_neg p2, if_neg p2, if_neg (by rintro (hh | hh); exact p1 hh; exact p2 hh.1)]; rfl
            by_cases g5 : M (6 * nd + N (58 + 4 * k)) = -1
            · rw [if_pos g5]; exact fin _ (by simp [wCo, g5])
            · rw [if_neg g5]; exact fin _ (by simp [wCo, g5])
          · rw [if_neg g4, if_pos rfl]; exact no (by simp [wOk, g4])
        · rw [if_neg g3]; exact no (by simp at g3; simp [wOk, g3])
      · rw [if_neg g2, if_pos rfl]; exact no (by simp [wOk, mR, g2])
    · rw [if_neg g1, if_pos trivial]; exact no (by simp [wOk, mR, g1])
theorem rt_lt {nd nm : Nat} (hw : nm < 531441) : rt N nd nm < 531441 := by
  unfold rt
  (repeat' split) <;> omega
theorem cbest {c o : Nat} (ok : nOk N) (v : cN K c h o N aw) (hd : h.1 c 3 = dn) (hm : ∀ i, i < 36 → h.1 (c + 18) i = M i) {nd nm : Nat} {bar : Int32} (hnd : nd < 6) (hw : nm < 531441) (hn : 20 ≤ n) : f10_bestWay K n c (nI nd) (nI nm) bar h = some (oI (bw N aw dn M nd nm bar)) := by
  have hN : N 3 ≤ 12 := ok.2.2.2.1
  have := cbest_L (n := n) ok v hd hm (bar := bar) hnd (rt_lt (N := N) (nd := nd) hw) (N 3) 0 n none (by omega) (by omega) (fun q hq => by cases hq)
  obtain ⟨v1, v2, v3, v4⟩ := v
  simp only [f10_bestWay, v1, x_ob v2, routed_ok ok v3 hw hnd hn, x_bp]
  exact this
theorem mbest_L {m j : Nat} (ok : nOk N) (v : mN m h j N aw) (hd : h.1 m 26 = dn) (hm : ∀ i, i < 36 → h.1 (m + 13) i = M i) (hM : mOk M) {nd nm : Nat} {bar : Int32} (hnd : nd < 6) (hw : nm < 531441) (hn : 20 ≤ n) : ∀ (d k fu : Nat) (b : Option (Nat × Int32)), k + d = N 3 → d < fu → (∀ q, b = some q → q.1 < 6) → f11_nextWay_L19 K n m (nI nd) (nI nm) bar (nI (ltr (rt N nd nm))) h fu (b5 b) (b6 b 1000000) (nI k) = some (b5 (bwS N aw dn M nd (rt N nd nm) bar d k b)) := by
  have hN : N 3 ≤ 12 := ok.2.2.2.1
  have b0 := ok.1
  intro d
  induction d with
  | zero =>
    intro k fu b hk hf hb
    obtain ⟨fu, rfl⟩ : ∃ g, fu = g + 1 := ⟨fu - 1, by omega⟩
    have e1 : nI (N 3) ≤ nI k := nI_le (by omega) (by omega)
    simp only [f11_nextWay_L19, mroutes v.1, x_bp, if_pos e1, bwS]
  | succ d ih =>
    intro k fu b hk hf hb
    obtain ⟨fu, rfl⟩ : ∃ g, fu = g + 1 := ⟨fu - 1, by omega⟩
    have e1 : ¬ nI (N 3) ≤ nI k := nI_ge (by omega) (by omega)
    obtain ⟨c1, ⟨c2, c3⟩, ⟨c4, c5⟩, c6⟩ := ok.2.2.2.2.2.2.2.2.1 k (by omega)
    have r2 := mrouteAt (K := K) (n := n) v.1 (k := k) (w := 2) (by omega)
    have r3 := mrouteAt (K := K) (n := n) v.1 (k := k) (w := 3) (by omega)
    rw [show 56 + 4 * k + 2 = 58 + 4 * k by omega] at r2
    rw [show 56 + 4 * k + 3 = 59 + 4 * k by omega] at r3
    have r2 : f11_routeAt K n m (nI k) (2 : Int32) h = some (nI (N (58 + 4 * k))) := r2
    have r3 : f11_routeAt K n m (nI k) (3 : Int32) h = some (nI (N (59 + 4 * k))) := r3
    have r4 := misRoute (K := K) (n := n) ok v.1 (nd := nd) hw hnd (k := k) (by omega) hn
    have r5 := misUp (K := K) (n := n) ok v.2 hd (a := nd) (b := N (58 + 4 * k)) (by omega)
    have e4 : (6 : Int32) * nI nd + nI (N (58 + 4 * k)) = nI (6 * nd + N (58 + 4 * k)) := by rw [l_6, pk_mul, nI_add]
    have e5 : inb (nI (6 * nd + N (58 + 4 * k))) 36 = true := x_in (by omega) (by omega)
    have e6 : (nI (6 * nd + N (58 + 4 * k))).toNatClampNeg = 6 * nd + N (58 + 4 * k) := x_cl (by omega)
    have e9 := hm (6 * nd + N (58 + 4 * k)) (by omega)
    simp only [f11_nextWay_L19, mroutes v.1, x_bp, if_neg e1, r2, r3, r4, r5, x_gd, x_lt, f11_nextWay_J107, f11_nextWay_J135, f11_nextWay_J149, f11_nextWay_J163, e4, e5, e6, e9, nI_1, mhas (show N (58 + 4 * k) < 32 by omega), bwS]
    have no : wOk N aw dn nd (rt N nd nm) bar k = false → f11_nextWay_L19 K n m (nI nd) (nI nm) bar (nI (ltr (rt N nd nm))) h fu (b5 b) (b6 b 1000000) (nI (k + 1)) = some (b5 (bwS N aw dn M nd (rt N nd nm) bar d (k + 1) (if wOk N aw dn nd (rt N nd nm) bar k = true then bet b (N (58 + 4 * k)) (wCo N M nd k) else b))) := fun hh => by
      rw [hh]; exact ih (k + 1) fu b (by omega) (by omega) hb
    by_cases g1 : mR N nd (rt N nd nm) k = true
    · rw [if_pos g1, if_neg b_10]
      by_cases g4 : (upL N aw dn (6 * nd + N (58 + 4 * k))).isSome = true
      · rw [if_pos g4, if_neg b_10]
        cases g3 : bI bar (N (58 + 4 * k)) with
        | true => rw [if_pos rfl, if_neg b_10]; exact no (by simp [wOk, g3])
        | false =>
          rw [if_pos (show (if false = true then (1 : Int32) else 0) = 0 by decide)]
          have hk' : wOk N aw dn nd (rt N nd nm) bar k = true := by simp [wOk, g1, g3, g4]
          obtain ⟨cv, cv1, cv2⟩ := wCo_ok ok hM (nd := nd) hnd (k := k) (by omega)
          have fin : ∀ s0 : Int32, s0 = wCo N M nd k → f11_nextWay_L19 K n m (nI nd) (nI nm) bar (nI (ltr (rt N nd nm))) h fu (if (if s0 < b6 b 1000000 then (1 : Int32) else (if s0 = b6 b 1000000 then (if b5 b ≤ nI (N (58 + 4 * k)) then (0 : Int32) else (1 : Int32)) else (0 : Int32))) = 0 then b5 b else nI (N (58 + 4 * k))) (if (if s0 < b6 b 1000000 then (1 : Int32) else (if s0 = b6 b 1000000 then (if b5 b ≤ nI (N (58 + 4 * k)) then (0 : Int32) else (1 : Int32)) else (0 : Int32))) = 0 then b6 b 1000000 else s0) (nI (k + 1)) = some (b5 (bwS N aw dn M nd (rt N nd nm) bar d (k + 1) (if wOk N aw dn nd (rt N nd nm) bar k = true then bet b (N (58 + 4 * k)) (wCo N M nd k) else b))) := by
            intro s0 hs
            rw [if_pos hk']
            have hb2 := bet_ok (c := wCo N M nd k) hb (show N (58 + 4 * k) < 6 by omega)
            have ih2 := ih (k + 1) fu (bet b (N (58 + 4 * k)) (wCo N M nd k)) (by omega) (by omega) hb2
            rw [← ih2]
            cases b with
            | none =>
              have z1 : s0 < b6 none 1000000 := by
                rw [hs, cv2]
                show nI cv < nI 1000000
                exact nI_lt (by omega) (by omega)
              simp only [if_pos z1, if_neg b_10]
              subst hs; rfl
            | some q =>
              have hq := hb q rfl
              subst hs
              simp only [b5, b6, bet, Option.map_some, oI, x_le (show q.1 < 2147483648 by omega) (show N (58 + 4 * k) < 2147483648 by omega)]
              by_cases p1 : wCo N M nd k < q.2
              · (simp only [if_pos p1, if_neg b_10, if_pos (Or.inl p1 : wCo N M nd k < q.2 ∨ _)]; try rfl)
              · by_cases p2 : wCo N M nd k = q.2
                · by_cases p3 : q.1 ≤ N (58 + 4 * k)
                  · have p4 : ¬ (wCo N M nd k < q.2 ∨ (wCo N M nd k = q.2 ∧ N (58 + 4 * k) < q.1)) := by rintro (hh | hh); exact p1 hh; omega
                    (simp only [if_neg p1, if_pos p2, if_pos p3, if_true, if_neg p4]; try rfl)
                  · have p4 : (wCo N M nd k < q.2 ∨ (wCo N M nd k = q.2 ∧ N (58 + 4 * k) < q.1)) := Or.inr ⟨p2, by omega⟩
                    (simp only [if_neg p1, if_pos p2, if_neg p3, if_neg b_10, if_pos p4]; try rfl)
                · have p4 : ¬ (wCo N M nd k < q.2 ∨ (wCo N M nd k = q.2 ∧ N (58 + 4 * k) < q.1)) := by rintro (hh | hh); exact p1 hh; exact p2 hh.1
                  (simp only [if_neg p1, if_neg p2, if_true, if_neg p4]; try rfl)
          by_cases g5 : M (6 * nd + N (58 + 4 * k)) = -1
          · rw [if_pos g5]; exact fin _ (by simp [wCo, g5])
          · rw [if_neg g5]; exact fin _ (by simp [wCo, g5])
      · rw [if_neg g4, if_pos rfl]; exact no (by simp [wOk, g4])
    · rw [if_neg g1, if_pos rfl]; exact no (by simp at g1; simp [wOk, g1])
theorem mbest {m j : Nat} (ok : nOk N) (v : mN m h j N aw) (hd : h.1 m 26 = dn) (hm : ∀ i, i < 36 → h.1 (m + 13) i = M i) (hM : mOk M) {nd nm : Nat} {bar : Int32} (hnd : nd < 6) (hw : nm < 531441) (hn : 20 ≤ n) : f11_nextWay K n m (nI nd) (nI nm) bar h = some (oI (bw N aw dn M nd nm bar)) := by
  have hN : N 3 ≤ 12 := ok.2.2.2.1
  have := mbest_L (K := K) (n := n) ok v hd hm hM (bar := bar) hnd hw hn (N 3) 0 n none (by omega) (by omega) (fun q hq => by cases hq)
  simp only [f11_nextWay, mlongest ok v.1 hw hnd hn, x_bp]
  exact this
end BestWay
