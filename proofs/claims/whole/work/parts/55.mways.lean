/-! the reference's ways: which routes count, which serve, which links are up -/
theorem ltr_d {w : Nat} (hw : w < 531441) : ltr (w / 27) = ltr w - 1 := by
  unfold ltr
  (repeat' split) <;> omega
theorem ltr_p {w : Nat} (h0 : 0 < w) : 1 ≤ ltr w := by
  unfold ltr; (repeat' split) <;> omega
theorem beg_t {p nm : Nat} : beg p nm = true ↔ p = nm ∨ p = nm / 27 ∨ p = nm / 27 / 27 ∨ p = nm / 27 / 27 / 27 := by simp [beg, or_assoc]
theorem beg_u {p q nm : Nat} (hm : nm < 531441) (hp : beg p nm = true) (hq : beg q nm = true) (h0 : 0 < p) (h1 : 0 < q) (hl : ltr p = ltr q) : p = q := by
  have a1 := ltr_d hm
  have a2 := ltr_d (w := nm / 27) (by omega)
  have a3 := ltr_d (w := nm / 27 / 27) (by omega)
  have b0 := ltr_p h0
  have b1 := ltr_p h1
  rcases beg_t.mp hp with c | c | c | c <;> rcases beg_t.mp hq with d | d | d | d <;> first
    | omega
    | (rw [c, d] at hl; rw [c] at b0; rw [d] at b1; omega)
theorem beg_lt {p q nm : Nat} (hm : nm < 531441) (hp : beg p nm = true) (hq : beg q nm = true) (h0 : 0 < p) (h1 : 0 < q) (hl : ltr p < ltr q) : beg p q = true ∧ p ≠ q := by
  have a1 := ltr_d hm
  have a2 := ltr_d (w := nm / 27) (by omega)
  have a3 := ltr_d (w := nm / 27 / 27) (by omega)
  have b0 := ltr_p h0
  have b1 := ltr_p h1
  refine ⟨beg_t.mpr ?_, fun hh => by rw [hh] at hl; omega⟩
  rcases beg_t.mp hp with c | c | c | c <;> rcases beg_t.mp hq with d | d | d | d <;> first
    | omega
    | (rw [c, d] at hl; rw [c] at b0; rw [d] at b1; omega)
/-- how many letters the longest beginning of a name has, of d routes from k on -/
def mxl (N : Nat → Nat) (nd nm : Nat) : Nat → Nat → Nat → Nat
  | 0, _, t => t
  | d + 1, k, t => mxl N nd nm d (k + 1) (if N (56 + 4 * k) = nd ∧ beg (N (57 + 4 * k)) nm = true then max t (ltr (N (57 + 4 * k))) else t)
theorem mxl_sp {N : Nat → Nat} {nd nm : Nat} : ∀ (d k t : Nat), t ≤ mxl N nd nm d k t ∧ (∀ i, k ≤ i → i < k + d → N (56 + 4 * i) = nd → beg (N (57 + 4 * i)) nm = true → ltr (N (57 + 4 * i)) ≤ mxl N nd nm d k t) ∧ (mxl N nd nm d k t = t ∨ ∃ i, k ≤ i ∧ i < k + d ∧ N (56 + 4 * i) = nd ∧ beg (N (57 + 4 * i)) nm = true ∧ ltr (N (57 + 4 * i)) = mxl N nd nm d k t) := by
  intro d
  induction d with
  | zero => exact fun k t => ⟨Nat.le_refl _, fun i h1 h2 => by omega, Or.inl rfl⟩
  | succ d ih =>
    intro k t
    by_cases hc : N (56 + 4 * k) = nd ∧ beg (N (57 + 4 * k)) nm = true
    · obtain ⟨e1, e2, e3⟩ := ih (k + 1) (max t (ltr (N (57 + 4 * k))))
      simp only [mxl, if_pos hc]
      refine ⟨by omega, fun i h1 h2 h3 h4 => ?_, ?_⟩
      · by_cases hi : i = k
        · subst hi; omega
        · exact e2 i (by omega) (by omega) h3 h4
      · rcases e3 with e3 | ⟨i, g1, g2, g3⟩
        · by_cases hm : t ≤ ltr (N (57 + 4 * k))
          · exact Or.inr ⟨k, by omega, by omega, hc.1, hc.2, by omega⟩
          · exact Or.inl (by omega)
        · exact Or.inr ⟨i, by omega, by omega, g3⟩
    · obtain ⟨e1, e2, e3⟩ := ih (k + 1) t
      simp only [mxl, if_neg hc]
      refine ⟨e1, fun i h1 h2 h3 h4 => ?_, ?_⟩
      · by_cases hi : i = k
        · subst hi; exact absurd ⟨h3, h4⟩ hc
        · exact e2 i (by omega) (by omega) h3 h4
      · rcases e3 with e3 | ⟨i, g1, g2, g3⟩
        · exact Or.inl e3
        · exact Or.inr ⟨i, by omega, by omega, g3⟩
theorem rt_sp {N : Nat → Nat} (ok : nOk N) {nd nm : Nat} (hm : nm < 531441) : (rt N nd nm = 0 ∧ ∀ k, k < N 3 → N (56 + 4 * k) = nd → ¬ beg (N (57 + 4 * k)) nm = true) ∨ (0 < rt N nd nm ∧ beg (rt N nd nm) nm = true ∧ hR N nd (rt N nd nm) = true ∧ ∀ k, k < N 3 → N (56 + 4 * k) = nd → beg (N (57 + 4 * k)) nm = true → ltr (N (57 + 4 * k)) ≤ ltr (rt N nd nm)) := by
  have a1 := ltr_d hm
  have a2 := ltr_d (w := nm / 27) (by omega)
  have a3 := ltr_d (w := nm / 27 / 27) (by omega)
  have z : ∀ w, hR N nd w = true → 0 < w := fun w hw => by
    cases w with
    | zero => rw [hR_0 ok] at hw; cases hw
    | succ w => omega
  have nh : ∀ w, ¬ hR N nd w = true → ∀ k, k < N 3 → N (56 + 4 * k) = nd → N (57 + 4 * k) ≠ w := fun w hw k h1 h2 h3 => hw (hR_t.mpr ⟨k, h1, h2, h3⟩)
  unfold rt
  by_cases c0 : hR N nd nm = true
  · rw [if_pos c0]
    refine Or.inr ⟨z _ c0, beg_t.mpr (Or.inl rfl), c0, fun k h1 h2 h3 => ?_⟩
    rcases beg_t.mp h3 with e | e | e | e <;> (rw [e]; omega)
  rw [if_neg c0]
  by_cases c1 : hR N nd (nm / 27) = true
  · rw [if_pos c1]
    refine Or.inr ⟨z _ c1, beg_t.mpr (Or.inr (Or.inl rfl)), c1, fun k h1 h2 h3 => ?_⟩
    have n0 := nh _ c0 k h1 h2
    rcases beg_t.mp h3 with e | e | e | e <;> first | exact absurd e n0 | (rw [e]; omega)
  rw [if_neg c1]
  by_cases c2 : hR N nd (nm / 27 / 27) = true
  · rw [if_pos c2]
    refine Or.inr ⟨z _ c2, beg_t.mpr (Or.inr (Or.inr (Or.inl rfl))), c2, fun k h1 h2 h3 => ?_⟩
    have n0 := nh _ c0 k h1 h2
    have n1 := nh _ c1 k h1 h2
    rcases beg_t.mp h3 with e | e | e | e <;> first | exact absurd e n0 | exact absurd e n1 | (rw [e]; omega)
  rw [if_neg c2]
  by_cases c3 : hR N nd (nm / 27 / 27 / 27) = true
  · rw [if_pos c3]
    refine Or.inr ⟨z _ c3, beg_t.mpr (Or.inr (Or.inr (Or.inr rfl))), c3, fun k h1 h2 h3 => ?_⟩
    have n0 := nh _ c0 k h1 h2
    have n1 := nh _ c1 k h1 h2
    have n2 := nh _ c2 k h1 h2
    rcases beg_t.mp h3 with e | e | e | e <;> first | exact absurd e n0 | exact absurd e n1 | exact absurd e n2 | (rw [e]; omega)
  rw [if_neg c3]
  refine Or.inl ⟨rfl, fun k h1 h2 h3 => ?_⟩
  have n0 := nh _ c0 k h1 h2
  have n1 := nh _ c1 k h1 h2
  have n2 := nh _ c2 k h1 h2
  have n3 := nh _ c3 k h1 h2
  rcases beg_t.mp h3 with e | e | e | e
  · exact n0 e
  · exact n1 e
  · exact n2 e
  · exact n3 e
theorem ltr_0 : ltr 0 = 0 := by simp [ltr]
theorem mxl_rt {N : Nat → Nat} (ok : nOk N) {nd nm : Nat} (hm : nm < 531441) : mxl N nd nm (N 3) 0 0 = ltr (rt N nd nm) := by
  obtain ⟨e1, e2, e3⟩ := mxl_sp (N := N) (nd := nd) (nm := nm) (N 3) 0 0
  rcases rt_sp ok (nd := nd) hm with ⟨h1, h2⟩ | ⟨h1, h2, h3, h4⟩
  · rw [h1, ltr_0]
    rcases e3 with e3 | ⟨i, g1, g2, g3, g4, -⟩
    · exact e3
    · exact absurd g4 (h2 i (by omega) g3)
  · obtain ⟨k, k1, k2, k3⟩ := hR_t.mp h3
    have b1 := e2 k (by omega) (by omega) k2 (by rw [k3]; exact h2)
    rw [k3] at b1
    rcases e3 with e3 | ⟨i, g1, g2, g3, g4, g5⟩
    · have := ltr_p h1; omega
    · have := h4 i (by omega) g3 g4; omega
/-- the routes that count for a name at a node are those of the longest beginning -/
theorem isr_rt {N : Nat → Nat} (ok : nOk N) {nd nm k : Nat} (hm : nm < 531441) (hk : k < N 3) : (N (56 + 4 * k) = nd ∧ ltr (N (57 + 4 * k)) = ltr (rt N nd nm) ∧ beg (N (57 + 4 * k)) nm = true) ↔ mR N nd (rt N nd nm) k = true := by
  have b2 := (ok.2.2.2.2.2.2.2.2.1 k hk).2.1.1
  simp only [mR, Bool.and_eq_true, beq_iff_eq]
  rcases rt_sp ok (nd := nd) hm with ⟨h1, h2⟩ | ⟨h1, h2, h3, h4⟩
  · constructor
    · rintro ⟨c1, c2, c3⟩; exact absurd c3 (h2 k hk c1)
    · rintro ⟨c1, c2⟩; omega
  · constructor
    · rintro ⟨c1, c2, c3⟩; exact ⟨c1, beg_u hm c3 h2 b2 h1 c2⟩
    · rintro ⟨c1, c2⟩; rw [c2]; exact ⟨c1, rfl, h2⟩
section ModelWays
variable {K : Ly} {n m j : Nat} {h : Hp} {N : Nat → Nat}
theorem mlongest_L (ok : nOk N) (v : vMN m h N j) {nd nm : Nat} (hm : nm < 531441) (hnd : nd < 6) (hn : 6 ≤ n) : ∀ (d k t fu : Nat), k + d = N 3 → d < fu → t ≤ 4 → f11_longestAt_L5 K n m (nI nd) (nI nm) h fu (nI t) (nI k) = some (nI (mxl N nd nm d k t)) := by
  have hN : N 3 ≤ 12 := ok.2.2.2.1
  intro d
  induction d with
  | zero =>
    intro k t fu hk hf ht
    obtain ⟨fu, rfl⟩ : ∃ g, fu = g + 1 := ⟨fu - 1, by omega⟩
    have e1 : nI (N 3) ≤ nI k := nI_le (by omega) (by omega)
    simp only [f11_longestAt_L5, mroutes v, x_bp, if_pos e1, mxl]
  | succ d ih =>
    intro k t fu hk hf ht
    obtain ⟨fu, rfl⟩ : ∃ g, fu = g + 1 := ⟨fu - 1, by omega⟩
    have e1 : ¬ nI (N 3) ≤ nI k := nI_ge (by omega) (by omega)
    have r0 := mrouteAt (K := K) (n := n) v (k := k) (w := 0) (by omega)
    have r1 := mrouteAt (K := K) (n := n) v (k := k) (w := 1) (by omega)
    rw [show 56 + 4 * k + 0 = 56 + 4 * k by omega] at r0
    rw [show 56 + 4 * k + 1 = 57 + 4 * k by omega] at r1
    obtain ⟨b1, ⟨b2, b3⟩, -, -⟩ := ok.2.2.2.2.2.2.2.2.1 k (by omega)
    have b4 := ok.1
    have bg := mbeg (K := K) (n := n) (h := h) b2 b3 hm hn
    have lt1 := ltr_le (N (57 + 4 * k))
    simp only [f11_longestAt_L5, mroutes v, x_bp, if_neg e1, l_0, l_1, r0, r1, x_eq (show N (56 + 4 * k) < 2147483648 by omega) (show nd < 2147483648 by omega)]
    simp only [← l_0, ← l_1, bg, x_bp, f11_longestAt_J44, f11_longestAt_J43, f11_longestAt_J69, x_lt, nI_1, mxl]
    simp only [l_1, r1, x_bp]
    simp only [← l_1, mltr b3 hn, x_bp]
    by_cases c1 : N (56 + 4 * k) = nd
    · by_cases c2 : beg (N (57 + 4 * k)) nm = true
      · have e5 : f11_greater (nI t) (nI (ltr (N (57 + 4 * k)))) = nI (max t (ltr (N (57 + 4 * k)))) := by
          simp only [f11_greater, x_le (show t < 2147483648 by omega) (show ltr (N (57 + 4 * k)) < 2147483648 by omega)]
          split
          · congr 1; omega
          · congr 1; omega
        rw [if_pos c1, if_pos c2, if_neg b_10, if_neg b_10, if_pos ⟨c1, c2⟩, e5, ih (k + 1) _ fu (by omega) (by omega) (by omega)]
      · rw [if_pos c1, if_neg c2, if_pos rfl, if_pos rfl, if_neg (fun hh => c2 hh.2), ih (k + 1) _ fu (by omega) (by omega) ht]
    · rw [if_neg c1, if_pos trivial, if_neg (fun hh => c1 hh.1), ih (k + 1) _ fu (by omega) (by omega) ht]
theorem mlongest (ok : nOk N) (v : vMN m h N j) {nd nm : Nat} (hm : nm < 531441) (hnd : nd < 6) (hn : 20 ≤ n) : f11_longestAt K n m (nI nd) (nI nm) h = some (nI (ltr (rt N nd nm))) := by
  have hN : N 3 ≤ 12 := ok.2.2.2.1
  unfold f11_longestAt
  rw [l_0, mlongest_L ok v hm hnd (by omega) (N 3) 0 0 n (by omega) (by omega) (by omega), mxl_rt ok hm]
theorem misRoute (ok : nOk N) (v : vMN m h N j) {nd nm k : Nat} (hm : nm < 531441) (hnd : nd < 6) (hk : k < N 3) (hn : 20 ≤ n) : f11_isRoute K n m (nI k) (nI nd) (nI nm) (nI (ltr (rt N nd nm))) h = some (if mR N nd (rt N nd nm) k = true then 1 else 0) := by
  have hN : N 3 ≤ 12 := ok.2.2.2.1
  have r0 := mrouteAt (K := K) (n := n) v (k := k) (w := 0) (by omega)
  have r1 := mrouteAt (K := K) (n := n) v (k := k) (w := 1) (by omega)
  rw [show 56 + 4 * k + 0 = 56 + 4 * k by omega] at r0
  rw [show 56 + 4 * k + 1 = 57 + 4 * k by omega] at r1
  obtain ⟨b1, ⟨b2, b3⟩, -, -⟩ := ok.2.2.2.2.2.2.2.2.1 k (by omega)
  have b4 := ok.1
  have bg := mbeg (K := K) (n := n) (h := h) b2 b3 hm (by omega)
  have lt1 := ltr_le (N (57 + 4 * k))
  have lt2 := ltr_le (rt N nd nm)
  have key := isr_rt ok (nd := nd) hm hk
  unfold f11_isRoute
  rw [l_0, l_1, r0, r1]
  simp only [x_bp, mltr b3 (show 6 ≤ n by omega), bg, x_eq (show N (56 + 4 * k) < 2147483648 by omega) (show nd < 2147483648 by omega), x_eq (show ltr (N (57 + 4 * k)) < 2147483648 by omega) (show ltr (rt N nd nm) < 2147483648 by omega)]
  by_cases hq : mR N nd (rt N nd nm) k = true
  · obtain ⟨c1, c2, c3⟩ := key.mpr hq
    rw [if_pos c1, if_pos c2, if_pos c3, if_pos hq, if_neg (by decide)]
  · rw [if_neg hq]
    by_cases c1 : N (56 + 4 * k) = nd
    · rw [if_pos c1]
      by_cases c2 : ltr (N (57 + 4 * k)) = ltr (rt N nd nm)
      · rw [if_pos c2]
        by_cases c3 : beg (N (57 + 4 * k)) nm = true
        · exact absurd (key.mp ⟨c1, c2, c3⟩) hq
        · rw [if_neg c3, if_pos (by decide)]
      · rw [if_neg c2]
    · rw [if_neg c1]
end ModelWays
