/-! a run begins, on both sides -/
section Begin
variable {K : Ly} {n : Nat}
theorem fillI {a len : Nat} {x : Int32} (hl : len < 1000) : ∀ (d i fu : Nat) (h : Hp), i + d = len → d < fu → ∃ h', fJArrays_fill_IIV_L5 K n len a x (nI len) fu (nI i) h = some h' ∧ (∀ b k, ¬ (b = a ∧ i ≤ k ∧ k < len) → h'.1 b k = h.1 b k) ∧ (∀ k, i ≤ k → k < len → h'.1 a k = x) ∧ h'.2 = h.2 := by
  intro d
  induction d with
  | zero =>
    intro i fu h hi hf
    obtain ⟨fu, rfl⟩ : ∃ g, fu = g + 1 := ⟨fu - 1, by omega⟩
    have e1 : nI len ≤ nI i := nI_le (by omega) (by omega)
    exact ⟨h, by simp only [fJArrays_fill_IIV_L5, if_pos e1], fun _ _ _ => rfl, fun k h1 h2 => by omega, rfl⟩
  | succ d ih =>
    intro i fu h hi hf
    obtain ⟨fu, rfl⟩ : ∃ g, fu = g + 1 := ⟨fu - 1, by omega⟩
    have e1 : ¬ nI len ≤ nI i := nI_ge (by omega) (by omega)
    have e2 : inb (nI i) len = true := x_in (by omega) (by omega)
    have e3 : (nI i).toNatClampNeg = i := x_cl (by omega)
    obtain ⟨h', q1, q2, q3, q4⟩ := ih (i + 1) fu (sI h a i x) (by omega) (by omega)
    refine ⟨h', ?_, fun b k hb => ?_, fun k h1 h2 => ?_, q4⟩
    · simp only [fJArrays_fill_IIV_L5, if_neg e1, e2, e3, x_gd, x_lt, nI_1]; exact q1
    · rw [q2 b k (by omega), rI_n (by omega)]
    · by_cases hk : k = i
      · subst hk; rw [q2 _ _ (by omega), rI_e]
      · exact q3 k (by omega) h2
theorem fillL {a len : Nat} {x : Int64} (hl : len < 1000) : ∀ (d i fu : Nat) (h : Hp), i + d = len → d < fu → ∃ h', fJArrays_fill_JJV_L6 K n len a x (nI len) fu (nI i) h = some h' ∧ (∀ b k, ¬ (b = a ∧ i ≤ k ∧ k < len) → h'.2.1 b k = h.2.1 b k) ∧ (∀ k, i ≤ k → k < len → h'.2.1 a k = x) ∧ h'.1 = h.1 ∧ h'.2.2 = h.2.2 := by
  intro d
  induction d with
  | zero =>
    intro i fu h hi hf
    obtain ⟨fu, rfl⟩ : ∃ g, fu = g + 1 := ⟨fu - 1, by omega⟩
    have e1 : nI len ≤ nI i := nI_le (by omega) (by omega)
    exact ⟨h, by simp only [fJArrays_fill_JJV_L6, if_pos e1], fun _ _ _ => rfl, fun k h1 h2 => by omega, rfl, rfl⟩
  | succ d ih =>
    intro i fu h hi hf
    obtain ⟨fu, rfl⟩ : ∃ g, fu = g + 1 := ⟨fu - 1, by omega⟩
    have e1 : ¬ nI len ≤ nI i := nI_ge (by omega) (by omega)
    have e2 : inb (nI i) len = true := x_in (by omega) (by omega)
    have e3 : (nI i).toNatClampNeg = i := x_cl (by omega)
    obtain ⟨h', q1, q2, q3, q4, q5⟩ := ih (i + 1) fu (sL h a i x) (by omega) (by omega)
    refine ⟨h', ?_, fun b k hb => ?_, fun k h1 h2 => ?_, q4, q5⟩
    · simp only [fJArrays_fill_JJV_L6, if_neg e1, e2, e3, x_gd, x_lt, nI_1]; exact q1
    · rw [q2 b k (by omega), rL_n (by omega)]
    · by_cases hk : k = i
      · subst hk; rw [q2 _ _ (by omega), rL_e]
      · exact q3 k (by omega) h2
/-- what a Course is, whatever it has done -/
def cX (c : Nat) (h : Hp) : Prop := (∃ p : Nat → Nat, (∀ i, i < 360 → p i < 360 ∧ h.2.2 (c + 14) i = some (c + 23 + 2 * p i)) ∧ ∀ i j, i < 360 → j < 360 → p i = p j → i = j) ∧ (∃ p : Nat → Nat, (∀ i, i < 360 → p i < 360 ∧ h.2.2 (c + 15) i = some (c + 24 + 2 * p i)) ∧ ∀ i j, i < 360 → j < 360 → p i = p j → i = j) ∧ (∀ i, i < 6 → h.2.2 (c + 20) i = some (c + 743 + 4 * i)) ∧ ∀ k, k < 60 → h.2.2 (c + 21) k = some (c + 767 + k)
theorem vC.x {c o : Nat} {h : Hp} {N : Nat → Nat} {aw : Int32} {st : St} (v : vC K c h o N aw st) : cX c h := by
  obtain ⟨v1, v2, v3, ⟨p, Le, e1, e2⟩, ⟨p', Le', f1, f2⟩, v6, v7, v8, v9, v10⟩ := v
  exact ⟨⟨p, e1.1, e1.2.1⟩, ⟨p', f1.1, f1.2.1⟩, fun i hi => (v8 i hi).1, fun k hk => (v9 k hk).1⟩
theorem cst0 {c : Nat} (kc : KC K c) : ∀ (d i fu : Nat) (h : Hp), i + d = 6 → d < fu → (∀ x, x < 6 → h.2.2 (c + 20) x = some (c + 743 + 4 * x)) → ∃ h', f10_begin_L56 K n c fu (nI i) h = some h' ∧ (∀ b k, ¬ (k = 0 ∧ ∃ x, i ≤ x ∧ x < 6 ∧ b = c + 743 + 4 * x) → h'.1 b k = h.1 b k) ∧ (∀ x, i ≤ x → x < 6 → h'.1 (c + 743 + 4 * x) 0 = 0) ∧ h'.2 = h.2 := by
  intro d
  induction d with
  | zero =>
    intro i fu h hi hf hr
    obtain ⟨fu, rfl⟩ : ∃ g, fu = g + 1 := ⟨fu - 1, by omega⟩
    have e1 : (6 : Int32) ≤ nI i := by rw [l_6]; exact nI_le (by omega) (by omega)
    exact ⟨h, by simp only [f10_begin_L56, if_pos e1], fun _ _ _ => rfl, fun k h1 h2 => by omega, rfl⟩
  | succ d ih =>
    intro i fu h hi hf hr
    obtain ⟨fu, rfl⟩ : ∃ g, fu = g + 1 := ⟨fu - 1, by omega⟩
    have e1 : ¬ (6 : Int32) ≤ nI i := by rw [l_6]; exact nI_ge (by omega) (by omega)
    have e2 : inb (nI i) 6 = true := x_in (by omega) (by omega)
    have e3 : (nI i).toNatClampNeg = i := x_cl (by omega)
    obtain ⟨h', q1, q2, q3, q4⟩ := ih (i + 1) fu (sI h (c + 743 + 4 * i) 0 0) (by omega) (by omega) hr
    refine ⟨h', ?_, fun b k hb => ?_, fun x h1 h2 => ?_, q4⟩
    · simp only [f10_begin_L56, if_neg e1, e2, e3, x_gd, hr i (by omega), x_ob (kc.2.2.1 i (by omega)), x_lt, nI_1]; exact q1
    · rw [q2 b k (fun hh => hb ⟨hh.1, by obtain ⟨x, x1, x2, x3⟩ := hh.2; exact ⟨x, by omega, x2, x3⟩⟩), rI_n]
      by_cases hk : k = 0
      · left; intro hb2; exact hb ⟨hk, i, by omega, by omega, hb2⟩
      · right; exact hk
    · by_cases hx : x = i
      · subst hx; rw [q2 _ _ (by rintro ⟨-, y, y1, y2, y3⟩; omega), rI_e]
      · exact q3 x (by omega) h2
theorem cbegin {c o : Nat} {h : Hp} {N : Nat → Nat} {aw : Int32} (kc : KC K c) (hn : 5000 ≤ n) (hx : cX c h) (ho : o + 13 ≤ c) (ko : K o = some (.inl 2)) (vn : vN o h N) : ∃ h', f10_begin K n c o aw h = some h' ∧ vC K c h' o N aw (st0 (fun k i => h.1 (c + 767 + k) i)) ∧ h'.1 (c + 22) 6 = 0 ∧ ∀ a k, (a < c ∨ c + 827 ≤ a) → h'.1 a k = h.1 a k ∧ h'.2.1 a k = h.2.1 a k ∧ h'.2.2 a k = h.2.2 a k := by
  obtain ⟨⟨p, p1, p2⟩, ⟨p', p3, p4⟩, x3, x4⟩ := hx
  obtain ⟨h6, e6⟩ : ∃ h6, h6 = sI (sI (sI (sI (sI (sR h c 0 (some o)) c 1 aw) c 2 0) c 3 0) c 6 0) c 8 0 := ⟨_, rfl⟩
  have r6 : ∀ a k, a ≠ c → h6.1 a k = h.1 a k := fun a k ha => by rw [e6]; simp (disch := omega) only [rI_n, rR_i]
  have l6 : h6.2.1 = h.2.1 := by rw [e6]; rfl
  have q6 : ∀ a k, a ≠ c → h6.2.2 a k = h.2.2 a k := fun a k ha => by rw [e6]; show (sR h c 0 (some o)).2.2 a k = _; rw [rR_n (Or.inl ha)]
  obtain ⟨h8, a1, a2, a3, a4⟩ := fillI (K := K) (n := n) (a := c + 18) (len := 36) (x := -1) (by omega) 36 0 n h6 (by omega) (by omega)
  obtain ⟨h10, b1, b2, b3, b4, b5⟩ := fillL (K := K) (n := n) (a := c + 19) (len := 6) (x := 0) (by omega) 6 0 n h8 (by omega) (by omega)
  obtain ⟨h12, d1, d2, d3, d4⟩ := fillI (K := K) (n := n) (a := c + 22) (len := 7) (x := 0) (by omega) 7 0 n h10 (by omega) (by omega)
  obtain ⟨h13, f1, f2, f3, f4⟩ := cst0 (K := K) (n := n) kc 6 0 n h12 (by omega) (by omega) (fun x hx => by
    rw [d4, b5, a4, q6 _ _ (by omega)]; exact x3 x hx)
  -- ints, longs, references behind it
  have i13 : ∀ a k, a ≠ c + 18 → a ≠ c + 22 → (a < c + 743 ∨ c + 767 ≤ a) → h13.1 a k = h6.1 a k := fun a k ha hb hc => by
    rw [f2 a k (by rintro ⟨-, x, x1, x2, x3⟩; omega), d2 a k (by omega), b4, a2 a k (by omega)]
  have L13 : h13.2.1 = h10.2.1 := by rw [f4, d4]
  have R13 : h13.2.2 = h6.2.2 := by rw [f4, d4, b5, a4]
  have R6 : h6.2.2 c 0 = some o := by rw [e6]; show (sR h c 0 (some o)).2.2 c 0 = _; rw [rR_e]
  refine ⟨h13, ?_, ?_, ?_, fun a k ha => ⟨?_, ?_, ?_⟩⟩
  · unfold f10_begin
    simp only [x_lt]
    rw [← e6]
    have z1 : fJArrays_fill_IIV K n (c + 18) 36 (-1) h6 = some h8 := a1
    have z2 : fJArrays_fill_JJV K n (c + 19) 6 0 h8 = some h10 := b1
    have z3 : fJArrays_fill_IIV K n (c + 22) 7 0 h10 = some h12 := d1
    rw [z1, x_bp, z2, x_bp, z3, x_bp]; exact f1
  · refine ⟨⟨⟨by rw [R13]; exact R6, ko, vn.kp (fun a k h1 h2 => ?_), ?_⟩, ho⟩, ?_, ?_, ⟨p, [], ⟨fun i hi => ⟨(p1 i hi).1, ?_⟩, p2, by simp, ?_, fun i hi => by simp at hi⟩, trivial⟩, ⟨p', [], ⟨fun i hi => ⟨(p3 i hi).1, ?_⟩, p4, by simp, ?_, fun i hi => by simp at hi⟩, trivial⟩, fun i hi => ?_, fun i hi => ?_, fun i hi => ⟨?_, ?_⟩, fun k hk => ⟨?_, fun i hi => ?_⟩, fun i hi => ?_⟩
    · rw [i13 a k (by omega) (by omega) (by omega), r6 a k (by omega)]
    · rw [i13 _ _ (by omega) (by omega) (by omega), e6]; simp (disch := omega) only [rI_n, rI_e]
    · rw [i13 _ _ (by omega) (by omega) (by omega), e6]; simp (disch := omega) only [rI_n, rI_e]; rfl
    · rw [i13 _ _ (by omega) (by omega) (by omega), e6]; simp (disch := omega) only [rI_n, rI_e]; rfl
    · rw [R13, q6 _ _ (by omega)]; exact (p1 i hi).2
    · rw [i13 _ _ (by omega) (by omega) (by omega), e6]; simp (disch := omega) only [rI_n, rI_e]; rfl
    · rw [R13, q6 _ _ (by omega)]; exact (p3 i hi).2
    · rw [i13 _ _ (by omega) (by omega) (by omega), e6]; simp (disch := omega) only [rI_e]; rfl
    · rw [f2 _ _ (by rintro ⟨-, x, x1, x2, x3⟩; omega), d2 _ _ (by omega), b4, a3 i (by omega) hi]; rfl
    · rw [L13, b3 i (by omega) hi]; rfl
    · rw [R13, q6 _ _ (by omega)]; exact x3 i hi
    · refine ⟨Nat.zero_le _, ?_, fun i hi => absurd (show i < 0 from hi) (by omega)⟩
      rw [f3 i (by omega) hi]; rfl
    · rw [R13, q6 _ _ (by omega)]; exact x4 k hk
    · rw [i13 _ _ (by omega) (by omega) (by omega), r6 _ _ (by omega)]
      show _ = if i < 8 then h.1 (c + 767 + k) i else 0
      rw [if_pos hi]
    · rw [f2 _ _ (by rintro ⟨-, x, x1, x2, x3⟩; omega), d3 i (by omega) (by omega)]; rfl
  · rw [f2 _ _ (by rintro ⟨-, x, x1, x2, x3⟩; omega), d3 6 (by omega) (by omega)]
  · rw [i13 a k (by omega) (by omega) (by omega), r6 a k (by omega)]
  · rw [L13, b2 _ _ (by omega), show h8.2.1 = h6.2.1 by rw [a4], l6]
  · rw [R13, q6 _ _ (by omega)]
theorem mbeg1 {m : Nat} : ∀ (d i fu : Nat) (h : Hp), i + d = 6 → d < fu → ∃ h', f11_begin_L52 K n m fu (nI i) h = f11_begin_L87 K n m n (nI 0) h' ∧ (∀ b k, ¬ ((b = m + 14 ∨ b = m + 18) ∧ i ≤ k ∧ k < 6) → h'.1 b k = h.1 b k) ∧ (∀ b k, ¬ (b = m + 12 ∧ i ≤ k ∧ k < 6) → h'.2.1 b k = h.2.1 b k) ∧ (∀ k, i ≤ k → k < 6 → h'.1 (m + 14) k = 0 ∧ h'.1 (m + 18) k = 0 ∧ h'.2.1 (m + 12) k = 0) ∧ h'.2.2 = h.2.2 := by
  intro d
  induction d with
  | zero =>
    intro i fu h hi hf
    obtain ⟨fu, rfl⟩ : ∃ g, fu = g + 1 := ⟨fu - 1, by omega⟩
    have e1 : (6 : Int32) ≤ nI i := by rw [l_6]; exact nI_le (by omega) (by omega)
    exact ⟨h, by simp only [f11_begin_L52, if_pos e1]; rfl, fun _ _ _ => rfl, fun _ _ _ => rfl, fun k h1 h2 => by omega, rfl⟩
  | succ d ih =>
    intro i fu h hi hf
    obtain ⟨fu, rfl⟩ : ∃ g, fu = g + 1 := ⟨fu - 1, by omega⟩
    have e1 : ¬ (6 : Int32) ≤ nI i := by rw [l_6]; exact nI_ge (by omega) (by omega)
    have e2 : inb (nI i) 6 = true := x_in (by omega) (by omega)
    have e3 : (nI i).toNatClampNeg = i := x_cl (by omega)
    obtain ⟨h', q1, q2, q3, q4, q5⟩ := ih (i + 1) fu (sI (sI (sL h (m + 12) i 0) (m + 14) i 0) (m + 18) i 0) (by omega) (by omega)
    refine ⟨h', ?_, fun b k hb => ?_, fun b k hb => ?_, fun k h1 h2 => ?_, q5⟩
    · simp only [f11_begin_L52, if_neg e1, e2, e3, x_gd, x_lt, nI_1]; exact q1
    · rw [q2 b k (by omega), rI_n (by omega), rI_n (by omega), rL_i]
    · rw [q3 b k (by omega), rI_l, rI_l, rL_n (by omega)]
    · by_cases hk : k = i
      · subst hk
        rw [q2 _ _ (by omega), q2 _ _ (by omega), q3 _ _ (by omega)]
        simp (disch := omega) only [rI_n, rI_e, rI_l, rL_e]
        exact ⟨trivial, trivial, trivial⟩
      · exact q4 k (by omega) h2
theorem mbeg2 {m : Nat} : ∀ (d i fu : Nat) (h : Hp), i + d = 36 → d < fu → ∃ h', f11_begin_L87 K n m fu (nI i) h = f11_begin_L108 K n m n (nI 0) h' ∧ (∀ b k, ¬ (b = m + 13 ∧ i ≤ k ∧ k < 36) → h'.1 b k = h.1 b k) ∧ (∀ k, i ≤ k → k < 36 → h'.1 (m + 13) k = -1) ∧ h'.2 = h.2 := by
  intro d
  induction d with
  | zero =>
    intro i fu h hi hf
    obtain ⟨fu, rfl⟩ : ∃ g, fu = g + 1 := ⟨fu - 1, by omega⟩
    have e1 : (36 : Int32) ≤ nI i := by rw [l_36]; exact nI_le (by omega) (by omega)
    exact ⟨h, by simp only [f11_begin_L87, if_pos e1]; rfl, fun _ _ _ => rfl, fun k h1 h2 => by omega, rfl⟩
  | succ d ih =>
    intro i fu h hi hf
    obtain ⟨fu, rfl⟩ : ∃ g, fu = g + 1 := ⟨fu - 1, by omega⟩
    have e1 : ¬ (36 : Int32) ≤ nI i := by rw [l_36]; exact nI_ge (by omega) (by omega)
    have e2 : inb (nI i) 36 = true := x_in (by omega) (by omega)
    have e3 : (nI i).toNatClampNeg = i := x_cl (by omega)
    obtain ⟨h', q1, q2, q3, q4⟩ := ih (i + 1) fu (sI h (m + 13) i (-1)) (by omega) (by omega)
    refine ⟨h', ?_, fun b k hb => ?_, fun k h1 h2 => ?_, q4⟩
    · simp only [f11_begin_L87, if_neg e1, e2, e3, x_gd, x_lt, nI_1]; exact q1
    · rw [q2 b k (by omega), rI_n (by omega)]
    · by_cases hk : k = i
      · subst hk; rw [q2 _ _ (by omega), rI_e]
      · exact q3 k (by omega) h2
theorem mbeg3 {m : Nat} : ∀ (d i fu : Nat) (h : Hp), i + d = 64 → d < fu → ∃ h', f11_begin_L108 K n m fu (nI i) h = some h' ∧ (∀ b k, ¬ (b = m + 40 ∧ i ≤ k ∧ k < 64) → h'.1 b k = h.1 b k) ∧ (∀ k, i ≤ k → k < 64 → h'.1 (m + 40) k = -1) ∧ h'.2 = h.2 := by
  intro d
  induction d with
  | zero =>
    intro i fu h hi hf
    obtain ⟨fu, rfl⟩ : ∃ g, fu = g + 1 := ⟨fu - 1, by omega⟩
    have e1 : (64 : Int32) ≤ nI i := by rw [l_64]; exact nI_le (by omega) (by omega)
    exact ⟨h, by simp only [f11_begin_L108, if_pos e1], fun _ _ _ => rfl, fun k h1 h2 => by omega, rfl⟩
  | succ d ih =>
    intro i fu h hi hf
    obtain ⟨fu, rfl⟩ : ∃ g, fu = g + 1 := ⟨fu - 1, by omega⟩
    have e1 : ¬ (64 : Int32) ≤ nI i := by rw [l_64]; exact nI_ge (by omega) (by omega)
    have e2 : inb (nI i) 64 = true := x_in (by omega) (by omega)
    have e3 : (nI i).toNatClampNeg = i := x_cl (by omega)
    obtain ⟨h', q1, q2, q3, q4⟩ := ih (i + 1) fu (sI h (m + 40) i (-1)) (by omega) (by omega)
    refine ⟨h', ?_, fun b k hb => ?_, fun k h1 h2 => ?_, q4⟩
    · simp only [f11_begin_L108, if_neg e1, e2, e3, x_gd, x_lt, nI_1]; exact q1
    · rw [q2 b k (by omega), rI_n (by omega)]
    · by_cases hk : k = i
      · subst hk; rw [q2 _ _ (by omega), rI_e]
      · exact q3 k (by omega) h2
def RZ : List Nat := 11 :: RY
theorem mbegin {m j : Nat} {h : Hp} {N : Nat → Nat} (aw : Int32) (B : Nat → Nat → Int32) (ok : nOk N) (hn : 5000 ≤ n) (v : vMN m h N j) : ∃ h', f11_begin K n m aw h = some h' ∧ vM m h' j N aw (st0 B) [] ∧ ChM RZ m h h' := by
  obtain ⟨h2, a1, a2, a3, a4⟩ := mlayLinks (K := K) (n := n) ok v aw (by omega)
  obtain ⟨h11, e11⟩ : ∃ h11, h11 = sI (sI (sI (sI (sI (sI (sI (sI (sI h2 m 26 0) m 27 0) m 45 0) m 65 0) m 66 0) m 67 0) m 68 0) m 69 0) m 70 0 := ⟨_, rfl⟩
  have r11 : ∀ a k, a ≠ m → h11.1 a k = h2.1 a k := fun a k ha => by rw [e11]; simp (disch := omega) only [rI_n]
  have f11 : ∀ k, k ≠ 26 → k ≠ 27 → k ≠ 45 → (k < 65 ∨ 70 < k) → h11.1 m k = h2.1 m k := fun k h1 h2 h3 h4 => by rw [e11]; simp (disch := omega) only [rI_n]
  have q11 : h11.2 = h2.2 := by rw [e11]; rfl
  obtain ⟨h12, b1, b2, b3, b4, b5⟩ := mbeg1 (K := K) (n := n) (m := m) 6 0 n h11 (by omega) (by omega)
  obtain ⟨h13, c1, c2, c3, c4⟩ := mbeg2 (K := K) (n := n) (m := m) 36 0 n h12 (by omega) (by omega)
  obtain ⟨h14, d1, d2, d3, d4⟩ := mbeg3 (K := K) (n := n) (m := m) 64 0 n h13 (by omega) (by omega)
  have rd : ∀ a k, a ≠ m + 14 → a ≠ m + 18 → a ≠ m + 13 → a ≠ m + 40 → h14.1 a k = h11.1 a k := fun a k q1 q2 q3 q4 => by
    rw [d2 a k (by omega), c2 a k (by omega), b2 a k (by omega)]
  have fd : ∀ k, h14.1 m k = h11.1 m k := fun k => rd m k (by omega) (by omega) (by omega) (by omega)
  refine ⟨h14, ?_, ?_, fun a k ha => ⟨?_, ?_, ?_⟩⟩
  · unfold f11_begin
    rw [a1, x_bp]
    simp only [x_lt]
    rw [← e11]
    exact b1.trans (c1.trans d1)
  · refine ⟨⟨⟨v.1, ?_, ?_, ?_, fun i hi => ?_⟩, fun i hi => ?_⟩, ?_, ?_, fun nd hnd => ⟨?_, Nat.zero_le _, fun i e he => absurd (show (none : Option En) = some e from he) (by simp)⟩, ⟨?_, by simp, fun i p hp => by simp at hp⟩, fun i hi => ?_, fun i hi => ?_, fun nd hnd => ⟨?_, Nat.zero_le _, fun i t ht => absurd (show (none : Option So) = some t from ht) (by simp)⟩, fun k hk => ⟨fun hh => ?_, fun _ => ?_⟩, fun i hi => ?_⟩
    · rw [fd, f11 22 (by omega) (by omega) (by omega) (by omega), a3 _ _ (by omega)]; exact v.2.1
    · rw [fd, f11 23 (by omega) (by omega) (by omega) (by omega), a3 _ _ (by omega)]; exact v.2.2.1
    · rw [fd, f11 24 (by omega) (by omega) (by omega) (by omega), a3 _ _ (by omega)]; exact v.2.2.2.1
    · rw [rd _ _ (by omega) (by omega) (by omega) (by omega), r11 _ _ (by omega), a3 _ _ (by omega)]; exact v.2.2.2.2 i hi
    · rw [rd _ _ (by omega) (by omega) (by omega) (by omega), r11 _ _ (by omega)]; exact a4 i hi
    · rw [fd, e11]; simp (disch := omega) only [rI_n, rI_e]; rfl
    · rw [fd, e11]; simp (disch := omega) only [rI_n, rI_e]; rfl
    · rw [d2 _ _ (by omega), c2 _ _ (by omega), (b4 nd (by omega) hnd).2.1]; rfl
    · rw [fd, e11]; simp (disch := omega) only [rI_n, rI_e]; rfl
    · rw [d2 _ _ (by omega), c3 i (by omega) hi]; rfl
    · rw [show h14.2.1 = h12.2.1 by rw [d4, c4], (b4 i (by omega) hi).2.2]; rfl
    · rw [d2 _ _ (by omega), c2 _ _ (by omega), (b4 nd (by omega) hnd).1]; rfl
    · exact absurd hh (by show ¬ (if (8 : Nat) < 8 then B k 8 else 0) = (1 : Int32); rw [if_neg (by omega)]; decide)
    · exact d3 k (by omega) (by omega)
    · rw [fd, e11]
      match i, hi with
      | 0, _ => simp (disch := omega) only [rI_n, rI_e]; rfl
      | 1, _ => simp (disch := omega) only [rI_n, rI_e]; rfl
      | 2, _ => simp (disch := omega) only [rI_n, rI_e]; rfl
      | 3, _ => simp (disch := omega) only [rI_n, rI_e]; rfl
      | 4, _ => simp (disch := omega) only [rI_n, rI_e]; rfl
      | 5, _ => simp (disch := omega) only [rI_e]; rfl
      | i + 6, h => omega
  · have ne : ∀ j, 0 < j → j ∈ RZ → a ≠ m + j := fun j hj hm hh => ha (by rw [hh, rm_a hj]; exact hm)
    rw [rd a k (ne 14 (by omega) (by decide)) (ne 18 (by omega) (by decide)) (ne 13 (by omega) (by decide)) (ne 40 (by omega) (by decide))]
    by_cases ham : a = m
    · subst ham
      have nf : ∀ x, 100 + x ∈ RZ → k ≠ x := fun x hx hh => ha (by rw [rm_f, hh]; exact hx)
      have n26 := nf 26 (by decide)
      have n27 := nf 27 (by decide)
      have n45 := nf 45 (by decide)
      have n65 := nf 65 (by decide)
      have n66 := nf 66 (by decide)
      have n67 := nf 67 (by decide)
      have n68 := nf 68 (by decide)
      have n69 := nf 69 (by decide)
      have n70 := nf 70 (by decide)
      rw [f11 k n26 n27 n45 (by omega), a3 _ _ (by omega)]
    · have n11 := ne 11 (by omega) (by decide)
      rw [r11 a k ham, a3 _ _ (by omega)]
  · have ne : ∀ j, 0 < j → j ∈ RZ → a ≠ m + j := fun j hj hm hh => ha (by rw [hh, rm_a hj]; exact hm)
    have n12 := ne 12 (by omega) (by decide)
    rw [show h14.2.1 = h12.2.1 by rw [d4, c4], b3 _ _ (by omega), q11, a2]
  · rw [show h14.2.2 = h12.2.2 by rw [d4, c4], b5, q11, a2]
theorem inv_0 {N : Nat → Nat} {B : Nat → Nat → Int32} : Inv N 0 1 0 (st0 B) := by
  refine ⟨by omega, Nat.zero_le _, fun e he => absurd he List.not_mem_nil, fun p hp => absurd hp List.not_mem_nil, fun i hi => Or.inl rfl, fun nd k hnd hb => ?_, fun nd hnd => Nat.zero_le _, fun k hk => ?_, List.Pairwise.nil, List.Pairwise.nil, fun _ _ => false, fun nd k hnd hb => ?_, fun e he => absurd he List.not_mem_nil, fun nd k hnd hh => absurd (show false = true from hh) (by decide), ?_, fun nd hnd => Nat.zero_le _⟩
  · have hb : bL 0 k = true := hb
    rw [bL_0] at hb; cases hb
  · exact absurd hk (by show ¬ (if (8 : Nat) < 8 then B k 8 else 0) = (1 : Int32); rw [if_neg (by omega)]; decide)
  · have hb : bL 0 k = true := hb
    rw [bL_0] at hb; cases hb
  · exact Nat.zero_le _
end Begin
