/-! reading: bytes and tokens, on both sides -/
def cz (w : Int32) : Nat := (w &&& 255).toNatClampNeg
def isBt (w : Int32) : Prop := w.toInt8.toInt32 = w
theorem bt_all : ∀ z, z < 256 → ((Int8.ofNat z).toInt32 &&& 255 = nI z ∧ (∀ k, k < 128 → (((Int8.ofNat z).toInt32 = nI k) ↔ z = k)) ∧ f5_isLetter (Int8.ofNat z).toInt32 = (if 97 ≤ z ∧ z ≤ 122 then 1 else 0) ∧ f5_isDigit (Int8.ofNat z).toInt32 = (if 48 ≤ z ∧ z ≤ 57 then 1 else 0)) := by decide +kernel
theorem bt_of {w : Int32} (h : isBt w) : ∃ z, z < 256 ∧ w = (Int8.ofNat z).toInt32 := by
  refine ⟨w.toInt8.toBitVec.toNat, w.toInt8.toBitVec.isLt, ?_⟩
  have : Int8.ofNat w.toInt8.toBitVec.toNat = w.toInt8 := by
    apply Int8.toBitVec_inj.mp
    apply BitVec.eq_of_toNat_eq
    simp
  rw [this]; exact h.symm
section Cz
variable {w : Int32}
theorem cz_ex (h : isBt w) : ∃ z, z < 256 ∧ cz w = z ∧ w &&& 255 = nI z ∧ (∀ k, k < 128 → ((w = nI k) ↔ z = k)) ∧ f5_isLetter w = (if 97 ≤ z ∧ z ≤ 122 then 1 else 0) ∧ f5_isDigit w = (if 48 ≤ z ∧ z ≤ 57 then 1 else 0) := by
  obtain ⟨z, hz, rfl⟩ := bt_of h
  obtain ⟨a1, a2, a3, a4⟩ := bt_all z hz
  exact ⟨z, hz, by unfold cz; rw [a1, x_cl (by omega)], a1, a2, a3, a4⟩
theorem cz_lt (h : isBt w) : cz w < 256 := by obtain ⟨z, h1, h2, -⟩ := cz_ex h; omega
theorem cz_and (h : isBt w) : w &&& 255 = nI (cz w) := by obtain ⟨z, h1, h2, h3, -⟩ := cz_ex h; rw [h2]; exact h3
theorem cz_eq (h : isBt w) {k : Nat} (hk : k < 128) : (w = nI k) = (cz w = k) := by obtain ⟨z, h1, h2, h3, h4, -⟩ := cz_ex h; rw [h2]; exact propext (h4 k hk)
theorem cz_L (h : isBt w) : f5_isLetter w = if 97 ≤ cz w ∧ cz w ≤ 122 then 1 else 0 := by obtain ⟨z, h1, h2, h3, h4, h5, -⟩ := cz_ex h; rw [h2]; exact h5
theorem cz_D (h : isBt w) : f5_isDigit w = if 48 ≤ cz w ∧ cz w ≤ 57 then 1 else 0 := by obtain ⟨z, h1, h2, h3, h4, h5, h6⟩ := cz_ex h; rw [h2]; exact h6
theorem cz_nI (h : isBt w) (hz : cz w < 128) : w = nI (cz w) := (cz_eq h hz).mpr rfl
end Cz
theorem ChM.LF {R : List Nat} {m k : Nat} {h h1 : Hp} {x : Int64} (hm : 100 + k ∈ R) (q : ChM R m h h1) : ChM R m h (sL h1 m k x) := fun b j hb => by
  have u := q b j hb
  refine ⟨u.1, ?_, u.2.2⟩
  by_cases hbj : b = m ∧ j = k
  · obtain ⟨rfl, rfl⟩ := hbj
    exact absurd (rm_f.symm ▸ hm) hb
  · rw [rL_n (by omega)]; exact u.2.1
/-- what the class changes as it takes a token -/
def FrC (r : Nat) (h h' : Hp) : Prop := h'.2 = h.2 ∧ ∀ a k, ¬ (a = r ∧ 7 ≤ k ∧ k ≤ 10) → h'.1 a k = h.1 a k
theorem FrC.rf {r : Nat} {h : Hp} : FrC r h h := ⟨rfl, fun _ _ _ => rfl⟩
theorem FrC.tr {r : Nat} {h h' h'' : Hp} (q : FrC r h h') (q' : FrC r h' h'') : FrC r h h'' := ⟨q'.1.trans q.1, fun a k ha => (q'.2 a k ha).trans (q.2 a k ha)⟩
theorem FrC.F {r k : Nat} {h h' : Hp} {w : Int32} (hk : 7 ≤ k ∧ k ≤ 10) (q : FrC r h h') : FrC r h (sI h' r k w) := ⟨q.1, fun a j ha => by rw [rI_n (by omega)]; exact q.2 a j ha⟩
def RTk : List Nat := [109, 111, 112, 113, 114]
/-- the tape and where both sides stand in it -/
def TP (r u m : Nat) (t : Nat → Int32) (l a : Nat) (h1 h2 : Hp) : Prop := l ≤ 600 ∧ a ≤ l ∧ (∀ i, i < l → isBt (t i)) ∧ h1.2.2 r 4 = some u ∧ h1.1 r 5 = nI l ∧ h2.1 m 10 = nI l ∧ (∀ i, i < l → h1.1 u i = t i ∧ h2.1 (m + 1) i = t i) ∧ h1.1 r 7 = nI a ∧ h2.1 m 9 = nI a
section Tok
variable {K1 K2 : Ly} {n r u m l a : Nat} {h1 h2 h1' h2' : Hp} {t : Nat → Int32}
theorem TP.mv (v : TP r u m t l a h1 h2) (ne : r ≠ u) {a' : Nat} (ha : a' ≤ l) (q : FrC r h1 h1') (q' : ChM RTk m h2 h2') (e1 : h1'.1 r 7 = nI a') (e2 : h2'.1 m 9 = nI a') : TP r u m t l a' h1' h2' := by
  obtain ⟨v1, v2, v3, v4, v5, v6, v7, v8, v9⟩ := v
  refine ⟨v1, ha, v3, by rw [q.1]; exact v4, by rw [q.2 _ _ (by omega)]; exact v5, by rw [q'.f (by decide)]; exact v6, fun i hi => ?_, e1, e2⟩
  rw [q.2 _ _ (by omega), q'.a (by omega) (by decide)]; exact v7 i hi
theorem m_see (v : TP r u m t l a h1 h2) : f11_see K2 n m h2 = some (if a < l then nI (cz (t a)) else -1) := by
  obtain ⟨v1, v2, v3, v4, v5, v6, v7, v8, v9⟩ := v
  unfold f11_see
  rw [v6, v9]
  simp only [x_le (show l < 2147483648 by omega) (show a < 2147483648 by omega)]
  by_cases hc : a < l
  · rw [if_neg (by omega), if_pos hc, x_in (show a < 2400 by omega) (by omega), x_gd, x_cl (by omega), (v7 a hc).2, cz_and (v3 a hc)]
  · rw [if_pos (by omega), if_neg hc]
/-- the reference's token behind blanks -/
def mtl (K : Ly) (n m : Nat) (h : Hp) : Option Hp :=
  lt (sI h m 11 (h.1 m 9)) fun h7 => bp (f11_see K n m h7) fun y9 => lt (sL h7 m 14 (0 : Int64)) fun h10 => if 0 ≤ y9 then (if (f11_in y9 (97 : Int32) (122 : Int32)) = 0 then (if (f11_in y9 (48 : Int32) (57 : Int32)) = 0 then (lt (sI h10 m 9 ((h10.1 m 9) + (1 : Int32))) fun h14 => f11_token_J263 K n m (if y9 = (59 : Int32) then (4 : Int32) else (1 : Int32)) h14) else (lt (sI h10 m 13 (0 : Int32)) fun h16 => f11_token_L163 K n m n (0 : Int32) h16)) else f11_token_L74 K n m n (0 : Int32) h10) else (lt (sI h10 m 12 (0 : Int32)) fun h17 => some h17)
theorem both_ws (ku : K1 u = some (.inr (1, 600))) (ne : r ≠ u) : ∀ (d a fu fu' : Nat) (h1 h2 : Hp), a + d = l → d < fu → d < fu' → TP r u m t l a h1 h2 → ∃ b h1' h2', a ≤ b ∧ f5_step_L0 K1 n r fu h1 = f5_step_J52 K1 n r h1' ∧ f11_token_L0 K2 n m fu' h2 = mtl K2 n m h2' ∧ TP r u m t l b h1' h2' ∧ FrC r h1 h1' ∧ ChM RTk m h2 h2' := by
  intro d
  induction d with
  | zero =>
    intro a fu fu' h1 h2 ha hf hf' v
    obtain ⟨fu, rfl⟩ : ∃ g, fu = g + 1 := ⟨fu - 1, by omega⟩
    obtain ⟨fu', rfl⟩ : ∃ g, fu' = g + 1 := ⟨fu' - 1, by omega⟩
    have ms := m_see (K2 := K2) (n := n) v
    rw [if_neg (by omega)] at ms
    obtain ⟨v1, v2, v3, v4, v5, v6, v7, v8, v9⟩ := id v
    have e1 : nI l ≤ nI a := nI_le (by omega) (by omega)
    refine ⟨a, h1, h2, Nat.le_refl _, by rw [f5_step_L0, v5, v8, if_pos e1], ?_, v, FrC.rf, ChM.rf⟩
    rw [f11_token_L0, ms, x_bp, x_bp, if_neg (show ¬ (-1 : Int32) = 10 by decide), if_neg (show ¬ (-1 : Int32) = 32 by decide)]; rfl
  | succ d ih =>
    intro a fu fu' h1 h2 ha hf hf' v
    obtain ⟨fu, rfl⟩ : ∃ g, fu = g + 1 := ⟨fu - 1, by omega⟩
    obtain ⟨fu', rfl⟩ : ∃ g, fu' = g + 1 := ⟨fu' - 1, by omega⟩
    have ms := m_see (K2 := K2) (n := n) v
    rw [if_pos (by omega)] at ms
    obtain ⟨v1, v2, v3, v4, v5, v6, v7, v8, v9⟩ := id v
    have e1 : ¬ nI l ≤ nI a := nI_ge (by omega) (by omega)
    have bt := v3 a (by omega)
    have cl := cz_lt bt
    have q10 : (t a = (10 : Int32)) = (cz (t a) = 10) := cz_eq bt (k := 10) (by omega)
    have q32 : (t a = (32 : Int32)) = (cz (t a) = 32) := cz_eq bt (k := 32) (by omega)
    have p10 : (nI (cz (t a)) = (10 : Int32)) = (cz (t a) = 10) := x_eq (ab := 10) (by omega) (by omega)
    have p32 : (nI (cz (t a)) = (32 : Int32)) = (cz (t a) = 32) := x_eq (ab := 32) (by omega) (by omega)
    have cs : f5_step_L0 K1 n r (fu + 1) h1 = if cz (t a) = 10 then f5_step_L0 K1 n r fu (sI h1 r 7 (nI (a + 1))) else if cz (t a) = 32 then f5_step_L0 K1 n r fu (sI h1 r 7 (nI (a + 1))) else f5_step_J52 K1 n r h1 := by
      rw [f5_step_L0, v5, v8, if_neg e1, v4, x_oa ku, x_in (show a < 600 by omega) (by omega), x_gd, x_oa ku, x_in (show a < 600 by omega) (by omega), x_gd, x_cl (by omega), (v7 a (by omega)).1, f5_step_J39, x_lt, v8, nI_1]
      simp only [q10, q32]
    have mm : f11_token_L0 K2 n m (fu' + 1) h2 = if cz (t a) = 10 then f11_token_L0 K2 n m fu' (sI h2 m 9 (nI (a + 1))) else if cz (t a) = 32 then f11_token_L0 K2 n m fu' (sI h2 m 9 (nI (a + 1))) else mtl K2 n m h2 := by
      rw [f11_token_L0, ms, x_bp, x_bp, f11_token_J18, x_lt, mtl, v9, nI_1]
      simp only [p10, p32]
    have go : ∃ b h1' h2', a ≤ b ∧ f5_step_L0 K1 n r fu (sI h1 r 7 (nI (a + 1))) = f5_step_J52 K1 n r h1' ∧ f11_token_L0 K2 n m fu' (sI h2 m 9 (nI (a + 1))) = mtl K2 n m h2' ∧ TP r u m t l b h1' h2' ∧ FrC r h1 h1' ∧ ChM RTk m h2 h2' := by
      have c1 : FrC r h1 (sI h1 r 7 (nI (a + 1))) := FrC.F (by omega) FrC.rf
      have c2 : ChM RTk m h2 (sI h2 m 9 (nI (a + 1))) := ChM.F (by decide) ChM.rf
      obtain ⟨b, p1, p2, g1, g2, g3, g4, g5, g6⟩ := ih (a + 1) fu fu' _ _ (by omega) (by omega) (by omega) (v.mv ne (show a + 1 ≤ l by omega) c1 c2 rI_e rI_e)
      exact ⟨b, p1, p2, by omega, g2, g3, g4, c1.tr g5, c2.tr g6⟩
    rw [cs, mm]
    by_cases h10 : cz (t a) = 10
    · rw [if_pos h10, if_pos h10]; exact go
    · rw [if_neg h10, if_neg h10]
      by_cases h32 : cz (t a) = 32
      · rw [if_pos h32, if_pos h32]; exact go
      · rw [if_neg h32, if_neg h32]
        exact ⟨a, h1, h2, Nat.le_refl _, rfl, rfl, v, FrC.rf, ChM.rf⟩
end Tok
/-- a word's letters as a number, and its bytes as a long -/
def wN (t : Nat → Int32) (b : Nat) : Nat → Nat
  | 0 => 0
  | k + 1 => 27 * wN t b k + (cz (t (b + k)) - 96)
def wB (t : Nat → Int32) (b : Nat) : Nat → Nat
  | 0 => 0
  | k + 1 => 256 * wB t b k + cz (t (b + k))
theorem wN_lt {t : Nat → Int32} {b : Nat} : ∀ k, (∀ i, b ≤ i → i < b + k → 97 ≤ cz (t i) ∧ cz (t i) ≤ 122) → wN t b k < 27 ^ k ∧ (0 < k → 0 < wN t b k) := by
  intro k
  induction k with
  | zero => intro _; exact ⟨by simp [wN], fun h => by omega⟩
  | succ k ih =>
    intro h
    obtain ⟨i1, -⟩ := ih (fun i h1 h2 => h i h1 (by omega))
    obtain ⟨c1, c2⟩ := h (b + k) (by omega) (by omega)
    have p := Nat.pow_succ (n := 27) (m := k)
    refine ⟨?_, fun _ => ?_⟩
    · rw [wN, p]; omega
    · rw [wN]; omega
def mk (kd : Nat) : Int32 := if kd = 0 then 0 else if kd = 1 then 2 else if kd = 2 then 3 else if kd = 3 then 4 else 1
/-- both sides stand behind a token -/
def TR (r u m : Nat) (t : Nat → Int32) (l a b kd : Nat) (h1 h2 : Hp) : Prop := TP r u m t l a h1 h2 ∧ h1.1 r 9 = nI b ∧ h2.1 m 11 = nI b ∧ b ≤ a ∧ kd ≤ 4 ∧ h1.1 r 8 = nI kd ∧ h2.1 m 12 = mk kd ∧ (kd = 0 → b = l) ∧ (kd ≠ 0 → b < a) ∧ (kd = 1 → (∀ i, b ≤ i → i < a → 97 ≤ cz (t i) ∧ cz (t i) ≤ 122) ∧ h1.1 r 10 = (if a - b ≤ 4 then nI (wN t b (a - b)) else -1) ∧ h2.2.1 m 14 = (if a - b ≤ 8 then lN (wB t b (a - b)) else 0)) ∧ (kd = 2 → ∃ v, v ≤ 99 ∧ h1.1 r 10 = nI v ∧ h2.1 m 13 = nI v)
