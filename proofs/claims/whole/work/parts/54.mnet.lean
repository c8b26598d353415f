/-! the reference's side of a net: row j of its nets is N -/
def vMN (m : Nat) (h : Hp) (N : Nat → Nat) (j : Nat) : Prop := j < 2 ∧ h.1 m 22 = nI j ∧ h.1 m 23 = nI (N 0) ∧ h.1 m 24 = nI (N 1) ∧ ∀ i, i < 122 → h.1 (m + 6) (122 * j + i) = nI (N i)
def ltr (w : Nat) : Nat := if w = 0 then 0 else if w / 27 = 0 then 1 else if w / 27 / 27 = 0 then 2 else if w / 27 / 27 / 27 = 0 then 3 else 4
def beg (p nm : Nat) : Bool := (p == nm) || (p == nm / 27) || (p == nm / 27 / 27) || (p == nm / 27 / 27 / 27)
section ModelNet
variable {K : Ly} {n m j : Nat} {h : Hp} {N : Nat → Nat}
theorem mofNet (v : vMN m h N j) {i : Nat} (hi : i < 122) : f11_ofNet K n m (nI i) h = some (nI (N i)) := by
  have hj := v.1
  have e0 : (122 : Int32) * nI j + nI i = nI (122 * j + i) := by rw [l_122, pk_mul, nI_add]
  simp only [f11_ofNet, v.2.1, e0, x_in (show 122 * j + i < 976 by omega) (by omega), x_gd, x_cl (show 122 * j + i < 2147483648 by omega), v.2.2.2.2 i hi]
theorem mlinks (v : vMN m h N j) : f11_links K n m h = some (nI (N 2)) := by
  have := mofNet (K := K) (n := n) v (i := 2) (by omega)
  simp only [f11_links, l_2, this, x_bp]
theorem mroutes (v : vMN m h N j) : f11_routes K n m h = some (nI (N 3)) := by
  have := mofNet (K := K) (n := n) v (i := 3) (by omega)
  simp only [f11_routes, l_3, this, x_bp]
theorem mserves (v : vMN m h N j) : f11_serves K n m h = some (nI (N 4)) := by
  have := mofNet (K := K) (n := n) v (i := 4) (by omega)
  simp only [f11_serves, l_4, this, x_bp]
theorem mlinkAt (v : vMN m h N j) {l w : Nat} (hi : 11 + 3 * l + w < 122) : f11_linkAt K n m (nI l) (nI w) h = some (nI (N (11 + 3 * l + w))) := by
  have e0 : (11 : Int32) + (3 : Int32) * nI l + nI w = nI (11 + 3 * l + w) := by rw [l_11, l_3, pk_mul, nI_add, nI_add]
  simp only [f11_linkAt, e0, mofNet v hi, x_bp]
theorem mrouteAt (v : vMN m h N j) {k w : Nat} (hi : 56 + 4 * k + w < 122) : f11_routeAt K n m (nI k) (nI w) h = some (nI (N (56 + 4 * k + w))) := by
  have e0 : (56 : Int32) + (4 : Int32) * nI k + nI w = nI (56 + 4 * k + w) := by rw [l_56, l_4, pk_mul, nI_add, nI_add]
  simp only [f11_routeAt, e0, mofNet v hi, x_bp]
theorem mserveAt (v : vMN m h N j) {k w : Nat} (hi : 104 + 3 * k + w < 122) : f11_serveAt K n m (nI k) (nI w) h = some (nI (N (104 + 3 * k + w))) := by
  have e0 : (104 : Int32) + (3 : Int32) * nI k + nI w = nI (104 + 3 * k + w) := by rw [l_104, l_3, pk_mul, nI_add, nI_add]
  simp only [f11_serveAt, e0, mofNet v hi, x_bp]
theorem mltr_st {a w fu : Nat} (hw : w < 2147483648) (h0 : w ≠ 0) : f11_lettersOf_L4 K n h (fu + 1) (nI a) (nI w) = f11_lettersOf_L4 K n h fu (nI (a + 1)) (nI (w / 27)) := by
  have e2 : ¬ nI w ≤ 0 := nI_nle (by omega) (by omega)
  simp only [f11_lettersOf_L4, if_neg e2, x_lt, nI_1, x_d27 hw]
theorem mltr_0 {a fu : Nat} : f11_lettersOf_L4 K n h (fu + 1) (nI a) (nI 0) = some (nI a) := by
  have e2 : nI 0 ≤ (0 : Int32) := by decide
  simp only [f11_lettersOf_L4, if_pos e2]
theorem mltr {w : Nat} (hw : w < 531441) (hn : 6 ≤ n) : f11_lettersOf K n (nI w) h = some (nI (ltr w)) := by
  obtain ⟨f, hf⟩ : ∃ g, n = g + 5 := ⟨n - 5, by omega⟩
  unfold f11_lettersOf
  rw [l_0]
  generalize hg : n = fu
  rw [hf] at hg
  subst hg
  unfold ltr
  by_cases h0 : w = 0
  · subst h0; rw [if_pos rfl]; exact mltr_0
  rw [if_neg h0, mltr_st (by omega) h0]
  by_cases h1 : w / 27 = 0
  · rw [if_pos h1, h1]; exact mltr_0
  rw [if_neg h1, mltr_st (by omega) h1]
  by_cases h2 : w / 27 / 27 = 0
  · rw [if_pos h2, h2]; exact mltr_0
  rw [if_neg h2, mltr_st (by omega) h2]
  by_cases h3 : w / 27 / 27 / 27 = 0
  · rw [if_pos h3, h3]; exact mltr_0
  rw [if_neg h3, mltr_st (by omega) h3, show w / 27 / 27 / 27 / 27 = 0 by omega]; exact mltr_0
theorem ltr_le (w : Nat) : ltr w ≤ 4 := by
  unfold ltr; (repeat' split) <;> omega
theorem mbeg_e {p r t fu : Nat} (hp : p < 531441) (hr : r < 531441) (ht : t ≤ ltr p) (hn : 6 ≤ n) : f11_isBeginning_L7 K n (nI p) h (fu + 1) (nI r) (nI t) = some (if r = p then 1 else 0) := by
  have := ltr_le p
  have e2 : nI t ≤ nI (ltr p) := nI_le ht (by omega)
  simp only [f11_isBeginning_L7, mltr hp hn, x_bp, if_pos e2, x_eq (show r < 2147483648 by omega) (show p < 2147483648 by omega)]
theorem mbeg_s {p r t fu : Nat} (hp : p < 531441) (hr : r < 531441) (ht : ltr p < t + 1) (ht4 : t ≤ 4) (hn : 6 ≤ n) : f11_isBeginning_L7 K n (nI p) h (fu + 1) (nI r) (nI (t + 1)) = f11_isBeginning_L7 K n (nI p) h fu (nI (r / 27)) (nI t) := by
  have e2 : ¬ nI (t + 1) ≤ nI (ltr p) := nI_ge ht (by omega)
  simp only [f11_isBeginning_L7, mltr hp hn, x_bp, if_neg e2, x_lt, x_d27 (show r < 2147483648 by omega), x_pre]
theorem mbeg {p nm : Nat} (hp0 : 0 < p) (hp : p < 531441) (hm : nm < 531441) (hn : 6 ≤ n) : f11_isBeginning K n (nI p) (nI nm) h = some (if beg p nm then 1 else 0) := by
  obtain ⟨f, hf⟩ : ∃ g, n = g + 5 := ⟨n - 5, by omega⟩
  unfold f11_isBeginning
  rw [mltr hm hn, x_bp]
  have lp : (ltr p = 1 ∧ p < 27) ∨ (ltr p = 2 ∧ 27 ≤ p ∧ p < 729) ∨ (ltr p = 3 ∧ 729 ≤ p ∧ p < 19683) ∨ (ltr p = 4 ∧ 19683 ≤ p) := by
    generalize hl : ltr p = z
    unfold ltr at hl
    (repeat' split at hl) <;> omega
  have lm : (ltr nm = 0 ∧ nm = 0) ∨ (ltr nm = 1 ∧ 0 < nm ∧ nm < 27) ∨ (ltr nm = 2 ∧ 27 ≤ nm ∧ nm < 729) ∨ (ltr nm = 3 ∧ 729 ≤ nm ∧ nm < 19683) ∨ (ltr nm = 4 ∧ 19683 ≤ nm) := by
    generalize hl : ltr nm = z
    unfold ltr at hl
    (repeat' split at hl) <;> omega
  have fin : ∀ r : Nat, ((r = p) ↔ (p = nm ∨ p = nm / 27 ∨ p = nm / 27 / 27 ∨ p = nm / 27 / 27 / 27)) → (if r = p then (1 : Int32) else 0) = if beg p nm then 1 else 0 := by
    intro r hr
    have hb : (beg p nm = true) ↔ (r = p) := by rw [hr]; simp [beg, or_assoc]
    by_cases hc : r = p
    · rw [if_pos hc, if_pos (hb.mpr hc)]
    · rw [if_neg hc, if_neg (fun hh => hc (hb.mp hh))]
  have go : ∀ t, t ≤ 4 → ltr p + t = ltr nm ∨ (t = 0 ∧ ltr nm ≤ ltr p) → f11_isBeginning_L7 K n (nI p) h (f + 5) (nI nm) (nI (ltr nm)) = some (if nm / 27 ^ t = p then 1 else 0) := by
    intro t ht htt
    match t, ht with
    | 0, _ => rw [mbeg_e hp hm (by omega) hn]; simp
    | 1, _ =>
      rw [show ltr nm = ltr p + 1 by omega, mbeg_s hp hm (by omega) (by omega) hn, mbeg_e hp (by omega) (by omega) hn, Nat.pow_one]
    | 2, _ =>
      rw [show ltr nm = ltr p + 1 + 1 by omega, mbeg_s hp hm (by omega) (by omega) hn, mbeg_s hp (by omega) (by omega) (by omega) hn, mbeg_e hp (by omega) (by omega) hn, Nat.div_div_eq_div_mul]
    | 3, _ =>
      rw [show ltr nm = ltr p + 1 + 1 + 1 by omega, mbeg_s hp hm (by omega) (by omega) hn, mbeg_s hp (by omega) (by omega) (by omega) hn, mbeg_s hp (by omega) (by omega) (by omega) hn, mbeg_e hp (by omega) (by omega) hn, Nat.div_div_eq_div_mul, Nat.div_div_eq_div_mul]
    | 4, _ => omega
  rw [show f11_isBeginning_L7 K n (nI p) h n (nI nm) (nI (ltr nm)) = f11_isBeginning_L7 K n (nI p) h (f + 5) (nI nm) (nI (ltr nm)) by rw [← hf]]
  rcases lp with ⟨a1, a2⟩ | ⟨a1, a2⟩ | ⟨a1, a2⟩ | ⟨a1, a2⟩ <;> rcases lm with ⟨b1, b2⟩ | ⟨b1, b2⟩ | ⟨b1, b2⟩ | ⟨b1, b2⟩ | ⟨b1, b2⟩ <;> first
    | (rw [go 0 (by omega) (by omega)]; exact congrArg some (fin _ (by simp only [Nat.pow_zero, Nat.div_one]; omega)))
    | (rw [go 1 (by omega) (by omega)]; exact congrArg some (fin _ (by simp only [Nat.pow_one]; omega)))
    | (rw [go 2 (by omega) (by omega)]; exact congrArg some (fin _ (by rw [show 27 ^ 2 = 729 from rfl]; omega)))
    | (rw [go 3 (by omega) (by omega)]; exact congrArg some (fin _ (by rw [show 27 ^ 3 = 19683 from rfl]; omega)))
end ModelNet
