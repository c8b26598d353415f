/-! a net as told: a row of 122 numbers; what the class and the reference find in it -/
def oI : Option Nat → Int32
  | none => -1
  | some l => nI l
/-- the first place from k on, of d places, where it is so -/
def fN (P : Nat → Bool) : Nat → Nat → Option Nat
  | _, 0 => none
  | k, d + 1 => if P k then some k else fN P (k + 1) d
theorem fN_some {P : Nat → Bool} {k d j : Nat} (hf : fN P k d = some j) : k ≤ j ∧ j < k + d ∧ P j = true ∧ ∀ i, k ≤ i → i < j → P i = false := by
  induction d generalizing k with
  | zero => cases hf
  | succ d ih =>
    by_cases hp : P k = true
    · simp only [fN, hp, if_true, Option.some.injEq] at hf
      subst hf
      exact ⟨Nat.le_refl _, by omega, hp, fun i h1 h2 => by omega⟩
    · simp only [fN, hp, if_false] at hf
      obtain ⟨h1, h2, h3, h4⟩ := ih hf
      refine ⟨by omega, by omega, h3, fun i h5 h6 => ?_⟩
      by_cases hi : i = k
      · subst hi; simpa using hp
      · exact h4 i (by omega) h6
theorem fN_none {P : Nat → Bool} {k d : Nat} (hf : fN P k d = none) : ∀ i, k ≤ i → i < k + d → P i = false := by
  induction d generalizing k with
  | zero => intro i h1 h2; omega
  | succ d ih =>
    by_cases hp : P k = true
    · simp only [fN, hp, if_true] at hf; cases hf
    · simp only [fN, hp, if_false] at hf
      intro i h1 h2
      by_cases hi : i = k
      · subst hi; simpa using hp
      · exact ih hf i (by omega) (by omega)
theorem fN_none_of {P : Nat → Bool} {k d : Nat} (hf : ∀ i, k ≤ i → i < k + d → P i = false) : fN P k d = none := by
  cases hq : fN P k d with
  | none => rfl
  | some j =>
    obtain ⟨h1, h2, h3, -⟩ := fN_some hq
    rw [hf j h1 h2] at h3; cases h3
theorem fN_eq {P : Nat → Bool} {k d j : Nat} (h1 : k ≤ j) (h2 : j < k + d) (h3 : P j = true) (h4 : ∀ i, k ≤ i → i < j → P i = false) : fN P k d = some j := by
  cases hq : fN P k d with
  | none => have := fN_none hq j h1 h2; rw [h3] at this; cases this
  | some i =>
    obtain ⟨g1, g2, g3, g4⟩ := fN_some hq
    by_cases hij : i < j
    · have := h4 i g1 hij; rw [g3] at this; cases this
    · by_cases hji : j < i
      · have := g4 j h1 hji; rw [h3] at this; cases this
      · rw [show i = j by omega]
theorem fN_succ {P : Nat → Bool} {k d : Nat} : fN P k (d + 1) = (fN P k d).or (if P (k + d) then some (k + d) else none) := by
  cases hq : fN P k d with
  | none =>
    have h0 := fN_none hq
    by_cases hp : P (k + d) = true
    · simp only [Option.none_or, hp, if_true]
      exact fN_eq (by omega) (by omega) hp (fun i h1 h2 => h0 i h1 h2)
    · simp only [Option.none_or, hp, if_false]
      refine fN_none_of (fun i h1 h2 => ?_)
      by_cases hi : i = k + d
      · subst hi; simpa using hp
      · exact h0 i h1 (by omega)
  | some j =>
    obtain ⟨g1, g2, g3, g4⟩ := fN_some hq
    simp only [Option.some_or]
    exact fN_eq g1 (by omega) g3 g4
/-- the pair of a link's nodes is this place of the table -/
def mL (N : Nat → Nat) (i l : Nat) : Bool := (6 * N (11 + 3 * l) + N (12 + 3 * l) == i) || (6 * N (12 + 3 * l) + N (11 + 3 * l) == i)
def lk0 (N : Nat → Nat) (i : Nat) : Option Nat := fN (mL N i) 0 (N 2)
def lkA (N : Nat → Nat) (aw : Int32) (i : Nat) : Option Nat := match lk0 N i with
  | none => none
  | some l => if nI l = aw then none else some l
def nOk (N : Nat → Nat) : Prop :=
  (1 ≤ N 0 ∧ N 0 ≤ 6) ∧ (1 ≤ N 1 ∧ N 1 ≤ 99) ∧ N 2 ≤ 15 ∧ N 3 ≤ 12 ∧ N 4 ≤ 6 ∧ (∀ i, i < 6 → N (5 + i) ≤ 4) ∧
  (∀ l, l < N 2 → N (11 + 3 * l) < N 0 ∧ N (12 + 3 * l) < N 0 ∧ N (11 + 3 * l) ≠ N (12 + 3 * l) ∧ 1 ≤ N (13 + 3 * l) ∧ N (13 + 3 * l) ≤ 9) ∧
  (∀ l, l < N 2 → ∀ l', l' < l → ¬ (N (11 + 3 * l) = N (11 + 3 * l') ∧ N (12 + 3 * l) = N (12 + 3 * l')) ∧ ¬ (N (11 + 3 * l) = N (12 + 3 * l') ∧ N (12 + 3 * l) = N (11 + 3 * l'))) ∧
  (∀ k, k < N 3 → N (56 + 4 * k) < N 0 ∧ (0 < N (57 + 4 * k) ∧ N (57 + 4 * k) < 531441) ∧ (N (58 + 4 * k) < N 0 ∧ N (58 + 4 * k) ≠ N (56 + 4 * k)) ∧ N (59 + 4 * k) ≤ 99) ∧
  (∀ k, k < N 4 → N (104 + 3 * k) < N 0 ∧ (0 < N (105 + 3 * k) ∧ N (105 + 3 * k) < 531441) ∧ N (106 + 3 * k) ≤ 99)
/-- a Net of the class, at o -/
def vN (o : Nat) (h : Hp) (N : Nat → Nat) : Prop :=
  (∀ k, k < 5 → h.1 o k = nI (N k)) ∧ (∀ i, i < 6 → h.1 (o + 1) i = nI (N (5 + i))) ∧
  (∀ l, l < N 2 → h.1 (o + 2) l = nI (N (11 + 3 * l)) ∧ h.1 (o + 3) l = nI (N (12 + 3 * l)) ∧ h.1 (o + 4) l = nI (N (13 + 3 * l))) ∧
  (∀ i, i < 36 → h.1 (o + 5) i = oI (lk0 N i)) ∧
  (∀ k, k < N 3 → h.1 (o + 6) k = nI (N (56 + 4 * k)) ∧ h.1 (o + 7) k = nI (N (57 + 4 * k)) ∧ h.1 (o + 8) k = nI (N (58 + 4 * k)) ∧ h.1 (o + 9) k = nI (N (59 + 4 * k))) ∧
  (∀ k, k < N 4 → h.1 (o + 10) k = nI (N (104 + 3 * k)) ∧ h.1 (o + 11) k = nI (N (105 + 3 * k)) ∧ h.1 (o + 12) k = nI (N (106 + 3 * k)))
theorem vN.kp {o : Nat} {h h' : Hp} {N : Nat → Nat} (v : vN o h N) (e : ∀ a k, o ≤ a → a < o + 13 → h'.1 a k = h.1 a k) : vN o h' N := by
  obtain ⟨v1, v2, v3, v4, v5, v6⟩ := v
  refine ⟨fun k hk => ?_, fun i hi => ?_, fun l hl => ?_, fun i hi => ?_, fun k hk => ?_, fun k hk => ?_⟩
  · rw [e _ _ (by omega) (by omega)]; exact v1 k hk
  · rw [e _ _ (by omega) (by omega)]; exact v2 i hi
  · rw [e _ _ (by omega) (by omega), e _ _ (by omega) (by omega), e _ _ (by omega) (by omega)]; exact v3 l hl
  · rw [e _ _ (by omega) (by omega)]; exact v4 i hi
  · rw [e _ _ (by omega) (by omega), e _ _ (by omega) (by omega), e _ _ (by omega) (by omega), e _ _ (by omega) (by omega)]; exact v5 k hk
  · rw [e _ _ (by omega) (by omega), e _ _ (by omega) (by omega), e _ _ (by omega) (by omega)]; exact v6 k hk
def mR (N : Nat → Nat) (nd w k : Nat) : Bool := (N (56 + 4 * k) == nd) && (N (57 + 4 * k) == w)
def hR (N : Nat → Nat) (nd w : Nat) : Bool := (fN (mR N nd w) 0 (N 3)).isSome
theorem hR_t {N : Nat → Nat} {nd w : Nat} : hR N nd w = true ↔ ∃ k, k < N 3 ∧ N (56 + 4 * k) = nd ∧ N (57 + 4 * k) = w := by
  unfold hR
  cases hq : fN (mR N nd w) 0 (N 3) with
  | none =>
    have h0 := fN_none hq
    simp only [Option.isSome_none, Bool.false_eq_true, false_iff]
    rintro ⟨k, h1, h2, h3⟩
    have := h0 k (by omega) (by omega)
    simp [mR, h2, h3] at this
  | some j =>
    obtain ⟨h1, h2, h3, -⟩ := fN_some hq
    simp only [mR, Bool.and_eq_true, beq_iff_eq] at h3
    simp only [Option.isSome_some, true_iff]
    exact ⟨j, by omega, h3.1, h3.2⟩
/-- the longest beginning of a name for which a node has routes, 0 without -/
def rt (N : Nat → Nat) (nd nm : Nat) : Nat := if hR N nd nm then nm else if hR N nd (nm / 27) then nm / 27 else if hR N nd (nm / 27 / 27) then nm / 27 / 27 else if hR N nd (nm / 27 / 27 / 27) then nm / 27 / 27 / 27 else 0
def mS (N : Nat → Nat) (nd w k : Nat) : Bool := (N (104 + 3 * k) == nd) && (N (105 + 3 * k) == w)
/-- of the first d serves the one by which a node answers for a name -/
def svd (N : Nat → Nat) (nd nm d : Nat) : Option Nat := (fN (mS N nd nm) 0 d).or ((fN (mS N nd (nm / 27)) 0 d).or ((fN (mS N nd (nm / 27 / 27)) 0 d).or (fN (mS N nd (nm / 27 / 27 / 27)) 0 d)))
def sv (N : Nat → Nat) (nd nm : Nat) : Option Nat := svd N nd nm (N 4)
theorem hR_0 {N : Nat → Nat} (ok : nOk N) (nd : Nat) : hR N nd 0 = false := by
  cases hq : hR N nd 0 with
  | false => rfl
  | true =>
    obtain ⟨k, h1, h2, h3⟩ := hR_t.mp hq
    have := (ok.2.2.2.2.2.2.2.2.1 k h1).2.1.1
    omega
theorem mS_0 {N : Nat → Nat} (ok : nOk N) (nd : Nat) : fN (mS N nd 0) 0 (N 4) = none := by
  refine fN_none_of (fun i h1 h2 => ?_)
  have := (ok.2.2.2.2.2.2.2.2.2 i (by omega)).2.1.1
  simp only [mS, Bool.and_eq_false_iff, beq_eq_false_iff_ne]
  right; omega
theorem x_d27 {a : Nat} (ha : a < 2147483648) : nI a / 27 = nI (a / 27) := by
  have hh := pk_div (d := 27) ha (by decide) (by decide)
  exact hh
section ClassNet
variable {K : Ly} {n o : Nat} {h : Hp} {N : Nat → Nat}
theorem routed_in (ok : nOk N) (v : vN o h N) {nd w : Nat} {x4 : Int32} {r5 : Int32 → Int32 → Option Int32} (hw : w < 531441) (hnd : nd < 6) : ∀ (d k fu : Nat), k + d = N 3 → d < fu → f2_routed_L18 K n o (nI nd) (nI w) x4 h r5 fu (nI k) = match fN (mR N nd w) k d with
    | some _ => some (nI w)
    | none => r5 (nI (w / 27)) (x4 + 1) := by
  have hN : N 3 ≤ 12 := ok.2.2.2.1
  intro d
  induction d with
  | zero =>
    intro k fu hk hf
    obtain ⟨fu, rfl⟩ : ∃ g, fu = g + 1 := ⟨fu - 1, by omega⟩
    have e1 : h.1 o 3 ≤ nI k := by rw [v.1 3 (by omega)]; exact nI_le (by omega) (by omega)
    simp only [f2_routed_L18, if_pos e1, x_lt, x_d27 (show w < 2147483648 by omega), fN]
  | succ d ih =>
    intro k fu hk hf
    obtain ⟨fu, rfl⟩ : ∃ g, fu = g + 1 := ⟨fu - 1, by omega⟩
    have e1 : ¬ h.1 o 3 ≤ nI k := by rw [v.1 3 (by omega)]; exact nI_ge (by omega) (by omega)
    have e2 : inb (nI k) 12 = true := x_in (by omega) (by omega)
    have e3 : (nI k).toNatClampNeg = k := x_cl (by omega)
    obtain ⟨q1, q2, -, -⟩ := v.2.2.2.2.1 k (by omega)
    have b1 := (ok.2.2.2.2.2.2.2.2.1 k (by omega)).1
    have b2 := (ok.2.2.2.2.2.2.2.2.1 k (by omega)).2.1
    have b3 := ok.1
    simp only [f2_routed_L18, if_neg e1, e2, e3, q1, q2, x_gd, x_lt, nI_1, x_eq (show N (56 + 4 * k) < 2147483648 by omega) (show nd < 2147483648 by omega), x_eq (show N (57 + 4 * k) < 2147483648 by omega) (show w < 2147483648 by omega)]
    have ih := ih (k + 1) fu (by omega) (by omega)
    by_cases c1 : N (56 + 4 * k) = nd
    · by_cases c2 : N (57 + 4 * k) = w
      · rw [if_pos c1, if_pos c2]; simp [fN, mR, c1, c2]
      · rw [if_pos c1, if_neg c2, ih]; simp [fN, mR, c1, c2]
    · rw [if_neg c1, ih]; simp [fN, mR, c1]
theorem routed_st (ok : nOk N) (v : vN o h N) {nd w i fu : Nat} (hw : w < 531441) (hnd : nd < 6) (hi : i < 4) (hf : 1 ≤ fu) (hn : 20 ≤ n) : f2_routed_L5 K n o (nI nd) h (fu + 1) (nI w) (nI i) = if hR N nd w then some (nI w) else f2_routed_L5 K n o (nI nd) h fu (nI (w / 27)) (nI (i + 1)) := by
  have hN : N 3 ≤ 12 := ok.2.2.2.1
  have e1 : ¬ (4 : Int32) ≤ nI i := by rw [l_4]; exact nI_ge (by omega) (by omega)
  by_cases h0 : w = 0
  · subst h0
    have e2 : nI 0 ≤ (0 : Int32) := by decide
    rw [hR_0 ok]
    obtain ⟨fu, rfl⟩ : ∃ g, fu = g + 1 := ⟨fu - 1, by omega⟩
    simp only [f2_routed_L5, if_neg e1, if_pos e2, Nat.zero_div]
    by_cases h3 : i + 1 < 4
    · have e3 : ¬ (4 : Int32) ≤ nI (i + 1) := by rw [l_4]; exact nI_ge (by omega) (by omega)
      simp [if_neg e3]
    · have e3 : (4 : Int32) ≤ nI (i + 1) := by rw [l_4]; exact nI_le (by omega) (by omega)
      simp [if_pos e3]
  · have e2 : ¬ nI w ≤ 0 := nI_nle (by omega) (by omega)
    have e3 := routed_in (K := K) (n := n) ok v (x4 := nI i) (r5 := f2_routed_L5 K n o (nI nd) h fu) hw hnd (N 3) 0 n (by omega) (by omega)
    rw [show f2_routed_L5 K n o (nI nd) h (fu + 1) (nI w) (nI i) = f2_routed_L18 K n o (nI nd) (nI w) (nI i) h (f2_routed_L5 K n o (nI nd) h fu) n (nI 0) from by simp only [f2_routed_L5, if_neg e1, if_neg e2]; rfl, e3]
    unfold hR
    cases fN (mR N nd w) 0 (N 3) with
    | none => simp [nI_1]
    | some j => simp
theorem routed_ok (ok : nOk N) (v : vN o h N) {nd nm : Nat} (hw : nm < 531441) (hnd : nd < 6) (hn : 20 ≤ n) : f2_routed K n o (nI nd) (nI nm) h = some (nI (rt N nd nm)) := by
  obtain ⟨n, rfl⟩ : ∃ g, n = g + 6 := ⟨n - 6, by omega⟩
  have e4 : (4 : Int32) ≤ nI 4 := by decide
  unfold f2_routed
  rw [l_0, routed_st ok v hw hnd (by omega) (by omega) hn, routed_st ok v (by omega) hnd (by omega) (by omega) hn, routed_st ok v (by omega) hnd (by omega) (by omega) hn, routed_st ok v (by omega) hnd (by omega) (by omega) hn]
  rw [show f2_routed_L5 K (n + 6) o (nI nd) h (n + 2) (nI (nm / 27 / 27 / 27 / 27)) (nI (0 + 1 + 1 + 1 + 1)) = some 0 from by simp only [f2_routed_L5]; rw [if_pos e4]]
  unfold rt
  repeat' split
  all_goals rfl
theorem serving_in (ok : nOk N) (v : vN o h N) {nd w : Nat} {x4 : Int32} {r5 : Int32 → Int32 → Option Int32} (hw : w < 531441) (hnd : nd < 6) : ∀ (d k fu : Nat), k + d = N 4 → d < fu → f2_serving_L18 K n o (nI nd) (nI w) x4 h r5 fu (nI k) = match fN (mS N nd w) k d with
    | some j => some (nI j)
    | none => r5 (nI (w / 27)) (x4 + 1) := by
  have hN : N 4 ≤ 6 := ok.2.2.2.2.1
  intro d
  induction d with
  | zero =>
    intro k fu hk hf
    obtain ⟨fu, rfl⟩ : ∃ g, fu = g + 1 := ⟨fu - 1, by omega⟩
    have e1 : h.1 o 4 ≤ nI k := by rw [v.1 4 (by omega)]; exact nI_le (by omega) (by omega)
    simp only [f2_serving_L18, if_pos e1, x_lt, x_d27 (show w < 2147483648 by omega), fN]
  | succ d ih =>
    intro k fu hk hf
    obtain ⟨fu, rfl⟩ : ∃ g, fu = g + 1 := ⟨fu - 1, by omega⟩
    have e1 : ¬ h.1 o 4 ≤ nI k := by rw [v.1 4 (by omega)]; exact nI_ge (by omega) (by omega)
    have e2 : inb (nI k) 6 = true := x_in (by omega) (by omega)
    have e3 : (nI k).toNatClampNeg = k := x_cl (by omega)
    obtain ⟨q1, q2, -⟩ := v.2.2.2.2.2 k (by omega)
    have b1 := (ok.2.2.2.2.2.2.2.2.2 k (by omega)).1
    have b2 := (ok.2.2.2.2.2.2.2.2.2 k (by omega)).2.1
    have b3 := ok.1
    simp only [f2_serving_L18, if_neg e1, e2, e3, q1, q2, x_gd, x_lt, nI_1, x_eq (show N (104 + 3 * k) < 2147483648 by omega) (show nd < 2147483648 by omega), x_eq (show N (105 + 3 * k) < 2147483648 by omega) (show w < 2147483648 by omega)]
    have ih := ih (k + 1) fu (by omega) (by omega)
    by_cases c1 : N (104 + 3 * k) = nd
    · by_cases c2 : N (105 + 3 * k) = w
      · rw [if_pos c1, if_pos c2]; simp [fN, mS, c1, c2]
      · rw [if_pos c1, if_neg c2, ih]; simp [fN, mS, c1, c2]
    · rw [if_neg c1, ih]; simp [fN, mS, c1]
theorem serving_st (ok : nOk N) (v : vN o h N) {nd w i fu : Nat} (hw : w < 531441) (hnd : nd < 6) (hi : i < 4) (hf : 1 ≤ fu) (hn : 20 ≤ n) : f2_serving_L5 K n o (nI nd) h (fu + 1) (nI w) (nI i) = match fN (mS N nd w) 0 (N 4) with
    | some j => some (nI j)
    | none => f2_serving_L5 K n o (nI nd) h fu (nI (w / 27)) (nI (i + 1)) := by
  have hN : N 4 ≤ 6 := ok.2.2.2.2.1
  have e1 : ¬ (4 : Int32) ≤ nI i := by rw [l_4]; exact nI_ge (by omega) (by omega)
  by_cases h0 : w = 0
  · subst h0
    have e2 : nI 0 ≤ (0 : Int32) := by decide
    rw [mS_0 ok]
    obtain ⟨fu, rfl⟩ : ∃ g, fu = g + 1 := ⟨fu - 1, by omega⟩
    simp only [f2_serving_L5, if_neg e1, if_pos e2, Nat.zero_div]
    by_cases h3 : i + 1 < 4
    · have e3 : ¬ (4 : Int32) ≤ nI (i + 1) := by rw [l_4]; exact nI_ge (by omega) (by omega)
      simp [if_neg e3]
    · have e3 : (4 : Int32) ≤ nI (i + 1) := by rw [l_4]; exact nI_le (by omega) (by omega)
      simp [if_pos e3]
  · have e2 : ¬ nI w ≤ 0 := nI_nle (by omega) (by omega)
    have e3 := serving_in (K := K) (n := n) ok v (x4 := nI i) (r5 := f2_serving_L5 K n o (nI nd) h fu) hw hnd (N 4) 0 n (by omega) (by omega)
    rw [show f2_serving_L5 K n o (nI nd) h (fu + 1) (nI w) (nI i) = f2_serving_L18 K n o (nI nd) (nI w) (nI i) h (f2_serving_L5 K n o (nI nd) h fu) n (nI 0) from by simp only [f2_serving_L5, if_neg e1, if_neg e2]; rfl, e3]
    cases fN (mS N nd w) 0 (N 4) with
    | none => simp [nI_1]
    | some j => simp
theorem serving_ok (ok : nOk N) (v : vN o h N) {nd nm : Nat} (hw : nm < 531441) (hnd : nd < 6) (hn : 20 ≤ n) : f2_serving K n o (nI nd) (nI nm) h = some (oI (sv N nd nm)) := by
  obtain ⟨n, rfl⟩ : ∃ g, n = g + 6 := ⟨n - 6, by omega⟩
  have e4 : (4 : Int32) ≤ nI 4 := by decide
  unfold f2_serving
  rw [l_0, serving_st ok v hw hnd (by omega) (by omega) hn]
  unfold sv svd
  cases fN (mS N nd nm) 0 (N 4) with
  | some j => rfl
  | none =>
    simp only [Option.none_or]
    rw [serving_st ok v (by omega) hnd (by omega) (by omega) hn]
    cases fN (mS N nd (nm / 27)) 0 (N 4) with
    | some j => rfl
    | none =>
      simp only [Option.none_or]
      rw [serving_st ok v (by omega) hnd (by omega) (by omega) hn]
      cases fN (mS N nd (nm / 27 / 27)) 0 (N 4) with
      | some j => rfl
      | none =>
        simp only [Option.none_or]
        rw [serving_st ok v (by omega) hnd (by omega) (by omega) hn]
        cases fN (mS N nd (nm / 27 / 27 / 27)) 0 (N 4) with
        | some j => rfl
        | none =>
          simp only [f2_serving_L5]
          rw [if_pos e4]; rfl
end ClassNet
