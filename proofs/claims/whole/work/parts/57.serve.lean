/-! the reference's serve for a name; its table of links; the best way, of both -/
theorem svd_st {N : Nat → Nat} (ok : nOk N) {nd nm d : Nat} (hm : nm < 531441) (hd : d < N 4) : svd N nd nm (d + 1) = if N (104 + 3 * d) = nd ∧ beg (N (105 + 3 * d)) nm = true then (match svd N nd nm d with
    | none => some d
    | some b => if ltr (N (105 + 3 * b)) < ltr (N (105 + 3 * d)) then some d else some b) else svd N nd nm d := by
  have a1 := ltr_d hm
  have a2 := ltr_d (w := nm / 27) (by omega)
  have a3 := ltr_d (w := nm / 27 / 27) (by omega)
  have h0 := (ok.2.2.2.2.2.2.2.2.2 d hd).2.1.1
  have hl := ltr_p h0
  have wd : ∀ w b, fN (mS N nd w) 0 d = some b → N (105 + 3 * b) = w := fun w b hb => by
    have := (fN_some hb).2.2.1
    simp only [mS, Bool.and_eq_true, beq_iff_eq] at this
    exact this.2
  unfold svd
  rw [fN_succ, fN_succ, fN_succ, fN_succ]
  simp only [Nat.zero_add]
  have hq0 := wd nm
  have hq1 := wd (nm / 27)
  have hq2 := wd (nm / 27 / 27)
  have hq3 := wd (nm / 27 / 27 / 27)
  generalize fN (mS N nd nm) 0 d = b0 at *
  generalize fN (mS N nd (nm / 27)) 0 d = b1 at *
  generalize fN (mS N nd (nm / 27 / 27)) 0 d = b2 at *
  generalize fN (mS N nd (nm / 27 / 27 / 27)) 0 d = b3 at *
  by_cases c : N (104 + 3 * d) = nd ∧ beg (N (105 + 3 * d)) nm = true
  · rw [if_pos c]
    have e0 : (mS N nd nm d = true) ↔ N (105 + 3 * d) = nm := by simp [mS, c.1]
    have e1 : (mS N nd (nm / 27) d = true) ↔ N (105 + 3 * d) = nm / 27 := by simp [mS, c.1]
    have e2 : (mS N nd (nm / 27 / 27) d = true) ↔ N (105 + 3 * d) = nm / 27 / 27 := by simp [mS, c.1]
    have e3 : (mS N nd (nm / 27 / 27 / 27) d = true) ↔ N (105 + 3 * d) = nm / 27 / 27 / 27 := by simp [mS, c.1]
    rcases beg_t.mp c.2 with p | p | p | p
    · rw [if_pos (e0.mpr p), if_neg (fun hh => by have := e1.mp hh; omega), if_neg (fun hh => by have := e2.mp hh; omega), if_neg (fun hh => by have := e3.mp hh; omega)]
      rw [p] at hl ⊢
      cases b0 with
      | some b => simp [hq0 b rfl]
      | none =>
        cases b1 with
        | some b => simp [hq1 b rfl]; omega
        | none =>
          cases b2 with
          | some b => simp [hq2 b rfl]; omega
          | none =>
            cases b3 with
            | some b => simp [hq3 b rfl]; omega
            | none => simp
    · rw [if_pos (e1.mpr p), if_neg (fun hh => by have := e0.mp hh; omega), if_neg (fun hh => by have := e2.mp hh; omega), if_neg (fun hh => by have := e3.mp hh; omega)]
      rw [p] at hl ⊢
      cases b0 with
      | some b => simp [hq0 b rfl]; omega
      | none =>
        cases b1 with
        | some b => simp [hq1 b rfl]
        | none =>
          cases b2 with
          | some b => simp [hq2 b rfl]; omega
          | none =>
            cases b3 with
            | some b => simp [hq3 b rfl]; omega
            | none => simp
    · rw [if_pos (e2.mpr p), if_neg (fun hh => by have := e0.mp hh; omega), if_neg (fun hh => by have := e1.mp hh; omega), if_neg (fun hh => by have := e3.mp hh; omega)]
      rw [p] at hl ⊢
      cases b0 with
      | some b => simp [hq0 b rfl]; omega
      | none =>
        cases b1 with
        | some b => simp [hq1 b rfl]; omega
        | none =>
          cases b2 with
          | some b => simp [hq2 b rfl]
          | none =>
            cases b3 with
            | some b => simp [hq3 b rfl]; omega
            | none => simp
    · rw [if_pos (e3.mpr p), if_neg (fun hh => by have := e0.mp hh; omega), if_neg (fun hh => by have := e1.mp hh; omega), if_neg (fun hh => by have := e2.mp hh; omega)]
      rw [p] at hl ⊢
      cases b0 with
      | some b => simp [hq0 b rfl]; omega
      | none =>
        cases b1 with
        | some b => simp [hq1 b rfl]; omega
        | none =>
          cases b2 with
          | some b => simp [hq2 b rfl]; omega
          | none =>
            cases b3 with
            | some b => simp [hq3 b rfl]
            | none => simp
  · rw [if_neg c]
    have nb : ∀ w, (w = nm ∨ w = nm / 27 ∨ w = nm / 27 / 27 ∨ w = nm / 27 / 27 / 27) → ¬ mS N nd w d = true := fun w hw hh => by
      simp only [mS, Bool.and_eq_true, beq_iff_eq] at hh
      exact c ⟨hh.1, beg_t.mpr (by rw [hh.2]; exact hw)⟩
    rw [if_neg (nb _ (Or.inl rfl)), if_neg (nb _ (Or.inr (Or.inl rfl))), if_neg (nb _ (Or.inr (Or.inr (Or.inl rfl)))), if_neg (nb _ (Or.inr (Or.inr (Or.inr rfl))))]
    simp
theorem svd_lt {N : Nat → Nat} {nd nm d b : Nat} (hb : svd N nd nm d = some b) : b < d := by
  unfold svd at hb
  cases q0 : fN (mS N nd nm) 0 d with
  | some b0 => rw [q0] at hb; have := (fN_some q0).2.1; simp at hb; omega
  | none =>
    cases q1 : fN (mS N nd (nm / 27)) 0 d with
    | some b0 => rw [q0, q1] at hb; have := (fN_some q1).2.1; simp at hb; omega
    | none =>
      cases q2 : fN (mS N nd (nm / 27 / 27)) 0 d with
      | some b0 => rw [q0, q1, q2] at hb; have := (fN_some q2).2.1; simp at hb; omega
      | none =>
        cases q3 : fN (mS N nd (nm / 27 / 27 / 27)) 0 d with
        | some b0 => rw [q0, q1, q2, q3] at hb; have := (fN_some q3).2.1; simp at hb; omega
        | none => rw [q0, q1, q2, q3] at hb; simp at hb
def upL (N : Nat → Nat) (aw dn : Int32) (i : Nat) : Option Nat := match lkA N aw i with
  | none => none
  | some l => if bI dn l = true then none else some l
theorem lk0_lt {N : Nat → Nat} {i l : Nat} (hl : lk0 N i = some l) : l < N 2 ∧ mL N i l = true := by
  have := fN_some hl
  exact ⟨by omega, this.2.2.1⟩
theorem lkA_lt {N : Nat → Nat} {aw : Int32} {i l : Nat} (hl : lkA N aw i = some l) : l < N 2 ∧ lk0 N i = some l ∧ nI l ≠ aw := by
  unfold lkA at hl
  cases hq : lk0 N i with
  | none => rw [hq] at hl; cases hl
  | some l' =>
    rw [hq] at hl
    dsimp only at hl
    by_cases ha : nI l' = aw
    · rw [if_pos ha] at hl; cases hl
    · rw [if_neg ha] at hl
      cases hl
      exact ⟨(lk0_lt hq).1, rfl, ha⟩
theorem upL_lt {N : Nat → Nat} {aw dn : Int32} {i l : Nat} (hl : upL N aw dn i = some l) : l < N 2 ∧ lk0 N i = some l ∧ lkA N aw i = some l := by
  unfold upL at hl
  cases hq : lkA N aw i with
  | none => rw [hq] at hl; cases hl
  | some l' =>
    rw [hq] at hl
    dsimp only at hl
    by_cases ha : bI dn l' = true
    · rw [if_pos ha] at hl; cases hl
    · rw [if_neg ha] at hl
      cases hl
      obtain ⟨q1, q2, -⟩ := lkA_lt hq
      exact ⟨q1, q2, rfl⟩
/-- the route counts, and its way is open -/
def wOk (N : Nat → Nat) (aw dn : Int32) (nd w : Nat) (bar : Int32) (k : Nat) : Bool := mR N nd w k && !(bI bar (N (58 + 4 * k))) && (upL N aw dn (6 * nd + N (58 + 4 * k))).isSome
def wCo (N : Nat → Nat) (M : Nat → Int32) (nd k : Nat) : Int32 := if M (6 * nd + N (58 + 4 * k)) = -1 then nI (N (59 + 4 * k)) else M (6 * nd + N (58 + 4 * k))
def bet (b : Option (Nat × Int32)) (t : Nat) (c : Int32) : Option (Nat × Int32) := match b with
  | none => some (t, c)
  | some b => if c < b.2 ∨ (c = b.2 ∧ t < b.1) then some (t, c) else some b
def bwS (N : Nat → Nat) (aw dn : Int32) (M : Nat → Int32) (nd w : Nat) (bar : Int32) : Nat → Nat → Option (Nat × Int32) → Option (Nat × Int32)
  | 0, _, b => b
  | d + 1, k, b => bwS N aw dn M nd w bar d (k + 1) (if wOk N aw dn nd w bar k = true then bet b (N (58 + 4 * k)) (wCo N M nd k) else b)
def bw (N : Nat → Nat) (aw dn : Int32) (M : Nat → Int32) (nd nm : Nat) (bar : Int32) : Option Nat := (bwS N aw dn M nd (rt N nd nm) bar (N 3) 0 none).map (·.1)
def mOk (M : Nat → Int32) : Prop := ∀ i, i < 36 → M i = -1 ∨ ∃ v, v ≤ 99 ∧ M i = nI v
theorem wCo_ok {N : Nat → Nat} (ok : nOk N) {M : Nat → Int32} (hM : mOk M) {nd k : Nat} (hnd : nd < 6) (hk : k < N 3) : ∃ v, v ≤ 99 ∧ wCo N M nd k = nI v := by
  obtain ⟨b1, -, ⟨b2, -⟩, b3⟩ := ok.2.2.2.2.2.2.2.2.1 k hk
  have b0 := ok.1
  unfold wCo
  by_cases hc : M (6 * nd + N (58 + 4 * k)) = -1
  · rw [if_pos hc]; exact ⟨_, b3, rfl⟩
  · rw [if_neg hc]
    rcases hM (6 * nd + N (58 + 4 * k)) (by omega) with q | q
    · exact absurd q hc
    · exact q
def b5 (b : Option (Nat × Int32)) : Int32 := oI (b.map (·.1))
theorem bet_ok {b : Option (Nat × Int32)} {t : Nat} {c : Int32} {X : Nat} (hb : ∀ q, b = some q → q.1 < X) (ht : t < X) : ∀ q, bet b t c = some q → q.1 < X := by
  intro q hq
  cases b with
  | none => cases hq; exact ht
  | some p =>
    simp only [bet] at hq
    split at hq
    · cases hq; exact ht
    · cases hq; exact hb _ rfl
theorem bwS_lt {N : Nat → Nat} (ok : nOk N) {aw dn : Int32} {M : Nat → Int32} {nd w : Nat} {bar : Int32} : ∀ (d k : Nat) (b : Option (Nat × Int32)), k + d = N 3 → (∀ q, b = some q → q.1 < N 0) → ∀ q, bwS N aw dn M nd w bar d k b = some q → q.1 < N 0 := by
  intro d
  induction d with
  | zero => exact fun k b _ hb => hb
  | succ d ih =>
    intro k b hk hb
    have b2 := (ok.2.2.2.2.2.2.2.2.1 k (by omega)).2.2.1.1
    refine ih (k + 1) _ (by omega) ?_
    split
    · exact bet_ok hb b2
    · exact hb
theorem bw_lt {N : Nat → Nat} (ok : nOk N) {aw dn : Int32} {M : Nat → Int32} {nd nm t : Nat} {bar : Int32} (hb : bw N aw dn M nd nm bar = some t) : t < N 0 := by
  unfold bw at hb
  cases hq : bwS N aw dn M nd (rt N nd nm) bar (N 3) 0 none with
  | none => rw [hq] at hb; cases hb
  | some q =>
    rw [hq] at hb
    simp only [Option.map_some, Option.some.injEq] at hb
    subst hb
    exact bwS_lt ok (N 3) 0 none (by omega) (fun q hq => by cases hq) q hq
/-- the way that was found is open -/
theorem bwS_up {N : Nat → Nat} {aw dn : Int32} {M : Nat → Int32} {nd w : Nat} {bar : Int32} : ∀ (d k : Nat) (b : Option (Nat × Int32)), (∀ q, b = some q → (upL N aw dn (6 * nd + q.1)).isSome = true ∧ bI bar q.1 = false) → ∀ q, bwS N aw dn M nd w bar d k b = some q → (upL N aw dn (6 * nd + q.1)).isSome = true ∧ bI bar q.1 = false := by
  intro d
  induction d with
  | zero => exact fun k b hb => hb
  | succ d ih =>
    intro k b hb
    refine ih (k + 1) _ ?_
    split
    · rename_i hw
      simp only [wOk, Bool.and_eq_true, Bool.not_eq_true'] at hw
      intro q hq
      cases b with
      | none => cases hq; exact ⟨hw.2, hw.1.2⟩
      | some p =>
        simp only [bet] at hq
        split at hq
        · cases hq; exact ⟨hw.2, hw.1.2⟩
        · cases hq; exact hb _ rfl
    · exact hb
theorem bw_up {N : Nat → Nat} {aw dn : Int32} {M : Nat → Int32} {nd nm t : Nat} {bar : Int32} (hb : bw N aw dn M nd nm bar = some t) : (upL N aw dn (6 * nd + t)).isSome = true ∧ bI bar t = false := by
  unfold bw at hb
  cases hq : bwS N aw dn M nd (rt N nd nm) bar (N 3) 0 none with
  | none => rw [hq] at hb; cases hb
  | some q =>
    rw [hq] at hb
    simp only [Option.map_some, Option.some.injEq] at hb
    subst hb
    exact bwS_up (N 3) 0 none (fun q hq => by cases hq) q hq
section ModelServe
variable {K : Ly} {n m j : Nat} {h : Hp} {N : Nat → Nat}
theorem mserveFor_L (ok : nOk N) (v : vMN m h N j) {nd nm : Nat} (hm : nm < 531441) (hnd : nd < 6) (hn : 6 ≤ n) : ∀ (d k fu : Nat), k + d = N 4 → d < fu → f11_serveFor_L5 K n m (nI nd) (nI nm) h fu (oI (svd N nd nm k)) (nI k) = some (oI (svd N nd nm (N 4))) := by
  have hN : N 4 ≤ 6 := ok.2.2.2.2.1
  intro d
  induction d with
  | zero =>
    intro k fu hk hf
    obtain ⟨fu, rfl⟩ : ∃ g, fu = g + 1 := ⟨fu - 1, by omega⟩
    have e1 : nI (N 4) ≤ nI k := nI_le (by omega) (by omega)
    simp only [f11_serveFor_L5, mserves v, x_bp, if_pos e1]
    rw [show k = N 4 by omega]
  | succ d ih =>
    intro k fu hk hf
    obtain ⟨fu, rfl⟩ : ∃ g, fu = g + 1 := ⟨fu - 1, by omega⟩
    have e1 : ¬ nI (N 4) ≤ nI k := nI_ge (by omega) (by omega)
    have r0 := mserveAt (K := K) (n := n) v (k := k) (w := 0) (by omega)
    have r1 := mserveAt (K := K) (n := n) v (k := k) (w := 1) (by omega)
    rw [show 104 + 3 * k + 0 = 104 + 3 * k by omega] at r0
    rw [show 104 + 3 * k + 1 = 105 + 3 * k by omega] at r1
    obtain ⟨b1, ⟨b2, b3⟩, -⟩ := ok.2.2.2.2.2.2.2.2.2 k (by omega)
    have b4 := ok.1
    have bg := mbeg (K := K) (n := n) (h := h) b2 b3 hm hn
    have lt1 := ltr_le (N (105 + 3 * k))
    have ih := ih (k + 1) fu (by omega) (by omega)
    rw [svd_st ok hm (by omega)] at ih
    have r0 : f11_serveAt K n m (nI k) (0 : Int32) h = some (nI (N (104 + 3 * k))) := r0
    have r1 : f11_serveAt K n m (nI k) (1 : Int32) h = some (nI (N (105 + 3 * k))) := r1
    simp only [f11_serveFor_L5, mserves v, x_bp, if_neg e1, r0, r1, bg, x_eq (show N (104 + 3 * k) < 2147483648 by omega) (show nd < 2147483648 by omega), f11_serveFor_J44, f11_serveFor_J43, f11_serveFor_J83, f11_serveFor_J84, f11_serveFor_J78, x_lt, nI_1, mltr b3 hn]
    by_cases c1 : N (104 + 3 * k) = nd
    · by_cases c2 : beg (N (105 + 3 * k)) nm = true
      · rw [if_pos ⟨c1, c2⟩] at ih
        rw [if_pos c1, if_pos c2, if_neg b_10, if_neg b_10]
        cases hq : svd N nd nm k with
        | none =>
          rw [hq] at ih
          exact ih
        | some b =>
          rw [hq] at ih
          have hb := svd_lt hq
          have rb := mserveAt (K := K) (n := n) v (k := b) (w := 1) (by omega)
          rw [show 104 + 3 * b + 1 = 105 + 3 * b by omega] at rb
          have rb : f11_serveAt K n m (nI b) (1 : Int32) h = some (nI (N (105 + 3 * b))) := rb
          obtain ⟨-, ⟨-, b6⟩, -⟩ := ok.2.2.2.2.2.2.2.2.2 b (by omega)
          have lt2 := ltr_le (N (105 + 3 * b))
          have e5 : ¬ oI (some b) = (-1 : Int32) := by
            show ¬ nI b = -1
            rw [x_nm1 (by omega)]; exact not_false
          rw [if_neg e5]
          simp only [oI, rb, x_bp, mltr b6 hn, x_le (show ltr (N (105 + 3 * k)) < 2147483648 by omega) (show ltr (N (105 + 3 * b)) < 2147483648 by omega)]
          dsimp only at ih
          by_cases c3 : ltr (N (105 + 3 * b)) < ltr (N (105 + 3 * k))
          · rw [if_pos c3] at ih
            rw [if_neg (by omega)]; exact ih
          · rw [if_neg c3] at ih
            rw [if_pos (by omega)]; exact ih
      · rw [if_neg (fun hh => c2 hh.2)] at ih
        rw [if_pos c1, if_neg c2, if_pos rfl, if_pos rfl]; exact ih
    · rw [if_neg (fun hh => c1 hh.1)] at ih
      rw [if_neg c1, if_pos trivial]; exact ih
theorem mserveFor (ok : nOk N) (v : vMN m h N j) {nd nm : Nat} (hm : nm < 531441) (hnd : nd < 6) (hn : 20 ≤ n) : f11_serveFor K n m (nI nd) (nI nm) h = some (oI (sv N nd nm)) := by
  have hN : N 4 ≤ 6 := ok.2.2.2.2.1
  have := mserveFor_L (K := K) (n := n) ok v hm hnd (by omega) (N 4) 0 n (by omega) (by omega)
  exact this
end ModelServe
