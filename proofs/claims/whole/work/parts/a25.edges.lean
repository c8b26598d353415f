/-! edges: both sides alike -/
def orS (c : Nat → Bool) (t : Nat → Nat) : Nat → Nat → Int32 → Int32
  | 0, _, s => s
  | d + 1, k, s => orS c t d (k + 1) (if c k = true then s ||| pI (t k) else s)
theorem orS_app {c : Nat → Bool} {t : Nat → Nat} : ∀ (a b k : Nat) (s : Int32), orS c t (a + b) k s = orS c t b (k + a) (orS c t a k s) := by
  intro a
  induction a with
  | zero => intro b k s; simp [orS]
  | succ a ih =>
    intro b k s
    rw [show a + 1 + b = a + b + 1 by omega, orS, ih, orS, show k + 1 + a = k + (a + 1) by omega]
theorem orS_no {c : Nat → Bool} {t : Nat → Nat} : ∀ (d k : Nat) (s : Int32), (∀ i, k ≤ i → i < k + d → c i = false) → orS c t d k s = s := by
  intro d
  induction d with
  | zero => intro k s _; rfl
  | succ d ih =>
    intro k s h
    rw [orS, h k (by omega) (by omega), if_neg (by decide)]
    exact ih (k + 1) s (fun i h1 h2 => h i (by omega) (by omega))
theorem orS_cut {c : Nat → Bool} {t : Nat → Nat} {a b : Nat} (hab : a ≤ b) (h : ∀ i, a ≤ i → i < b → c i = false) (s : Int32) : orS c t b 0 s = orS c t a 0 s := by
  rw [show b = a + (b - a) by omega, orS_app, orS_no]
  intro i h1 h2
  exact h i (by omega) (by omega)
theorem pI_id {s : Int32} {k : Nat} (hk : k < 32) : (s ||| pI k) ||| pI k = s ||| pI k := bI_ext (fun i _ => by rw [bI_pI hk, bI_pI hk, Bool.or_assoc, Bool.or_self])
theorem or_00 (s : Int32) : s ||| (0 : Int32) = s := bI_ext (fun k hk => by rw [bI_or, bI_0, Bool.or_false])
/-- how many links a node has, of d from i on -/
def lnc (N : Nat → Nat) (nd : Nat) : Nat → Nat → Nat → Nat
  | 0, _, s => s
  | d + 1, i, s => lnc N nd d (i + 1) (if N (11 + 3 * i) = nd ∨ N (12 + 3 * i) = nd then s + 1 else s)
theorem lnc_le {N : Nat → Nat} {nd : Nat} : ∀ (d i s : Nat), lnc N nd d i s ≤ s + d := by
  intro d
  induction d with
  | zero => intro i s; exact Nat.le_refl _
  | succ d ih =>
    intro i s
    rw [lnc]
    by_cases hc : N (11 + 3 * i) = nd ∨ N (12 + 3 * i) = nd
    · rw [if_pos hc]
      have := ih (i + 1) (s + 1)
      omega
    · rw [if_neg hc]
      have := ih (i + 1) s
      omega
def hdP (N : Nat → Nat) (k e : Nat) : Bool := (N (56 + 4 * e) == N (56 + 4 * k)) && (N (57 + 4 * e) == N (57 + 4 * k)) && (N (58 + 4 * e) == N (58 + 4 * k))
def svP (N : Nat → Nat) (k e : Nat) : Bool := (!(e == k)) && (N (104 + 3 * e) == N (104 + 3 * k)) && beg (N (105 + 3 * e)) (N (105 + 3 * k))
/-- what is asked of k, for each kind of edge -/
def edC (N : Nat → Nat) (w k : Nat) : Bool :=
  if w = 0 then decide (k < N 4) else if w = 1 then decide (k < N 0 ∧ lnc N k (N 2) 0 0 = 1) else if w = 2 then decide (k < N 3 ∧ ¬ (lk0 N (6 * N (56 + 4 * k) + N (58 + 4 * k))).isSome = true) else if w = 3 then decide (k < N 3 ∧ (fN (hdP N k) 0 k).isSome = true) else decide (k < N 4 ∧ (fN (svP N k) 0 (N 4)).isSome = true)
def edT (N : Nat → Nat) (w k : Nat) : Nat := if w = 0 then N (104 + 3 * k) else k
section EdM
variable {K2 : Ly} {n m j : Nat} {h2 : Hp} {N : Nat → Nat}
theorem m_linksAt (ok : nOk N) (vm : vMN m h2 N j) (hn : 5000 ≤ n) {nd : Nat} (hnd : nd < 2147483648) : f11_linksAt K2 n m (nI nd) h2 = some (nI (lnc N nd (N 2) 0 0)) := by
  have b2 := ok.2.2.1
  have b0 := ok.1
  have go : ∀ (d i s fu : Nat), i + d = N 2 → d < fu → f11_linksAt_L4 K2 n m (nI nd) h2 fu (nI s) (nI i) = some (nI (lnc N nd d i s)) := by
    intro d
    induction d with
    | zero =>
      intro i s fu hi hf
      obtain ⟨fu, rfl⟩ : ∃ g, fu = g + 1 := ⟨fu - 1, by omega⟩
      have e1 : nI (N 2) ≤ nI i := nI_le (by omega) (by omega)
      rw [f11_linksAt_L4, mlinks vm, x_bp, if_pos e1]; rfl
    | succ d ih =>
      intro i s fu hi hf
      obtain ⟨fu, rfl⟩ : ∃ g, fu = g + 1 := ⟨fu - 1, by omega⟩
      have e1 : ¬ nI (N 2) ≤ nI i := nI_ge (by omega) (by omega)
      obtain ⟨c1, c2, -⟩ := ok.2.2.2.2.2.2.1 i (by omega)
      have r0 : f11_linkAt K2 n m (nI i) (0 : Int32) h2 = some (nI (N (11 + 3 * i))) := mlinkAt vm (l := i) (w := 0) (by omega)
      have r1 : f11_linkAt K2 n m (nI i) (1 : Int32) h2 = some (nI (N (12 + 3 * i))) := by
        have := mlinkAt (K := K2) (n := n) vm (l := i) (w := 1) (by omega)
        rw [show 11 + 3 * i + 1 = 12 + 3 * i by omega] at this
        exact this
      rw [f11_linksAt_L4, mlinks vm, x_bp, if_neg e1, r0, x_bp, r1, x_bp, f11_linksAt_J33, lnc]
      simp only [f11_linksAt_J38, x_lt, nI_1, x_eq (show N (11 + 3 * i) < 2147483648 by omega) hnd, x_eq (show N (12 + 3 * i) < 2147483648 by omega) hnd]
      by_cases h0 : N (11 + 3 * i) = nd
      · rw [if_pos h0, if_pos (Or.inl h0), ih (i + 1) (s + 1) fu (by omega) (by omega)]
      · rw [if_neg h0]
        by_cases h1 : N (12 + 3 * i) = nd
        · rw [if_pos h1, if_pos (Or.inr h1), nI_1, ih (i + 1) (s + 1) fu (by omega) (by omega)]
        · rw [if_neg h1, if_neg (fun hh => hh.elim h0 h1), l_0, nI_add, Nat.add_zero, ih (i + 1) s fu (by omega) (by omega)]
  exact go (N 2) 0 0 n (by omega) (by omega)
theorem m_rt3 (vm : vMN m h2 N j) {i : Nat} (hi : i < 12) : f11_routeAt K2 n m (nI i) (0 : Int32) h2 = some (nI (N (56 + 4 * i))) ∧ f11_routeAt K2 n m (nI i) (1 : Int32) h2 = some (nI (N (57 + 4 * i))) ∧ f11_routeAt K2 n m (nI i) (2 : Int32) h2 = some (nI (N (58 + 4 * i))) := by
  refine ⟨mrouteAt vm (k := i) (w := 0) (by omega), ?_, ?_⟩
  · have := mrouteAt (K := K2) (n := n) vm (k := i) (w := 1) (by omega)
    rw [show 56 + 4 * i + 1 = 57 + 4 * i by omega] at this
    exact this
  · have := mrouteAt (K := K2) (n := n) vm (k := i) (w := 2) (by omega)
    rw [show 56 + 4 * i + 2 = 58 + 4 * i by omega] at this
    exact this
theorem m_sv2 (vm : vMN m h2 N j) {i : Nat} (hi : i < 6) : f11_serveAt K2 n m (nI i) (0 : Int32) h2 = some (nI (N (104 + 3 * i))) ∧ f11_serveAt K2 n m (nI i) (1 : Int32) h2 = some (nI (N (105 + 3 * i))) := by
  refine ⟨mserveAt vm (k := i) (w := 0) (by omega), ?_⟩
  have := mserveAt (K := K2) (n := n) vm (k := i) (w := 1) (by omega)
  rw [show 104 + 3 * i + 1 = 105 + 3 * i by omega] at this
  exact this
theorem m_isHidden (ok : nOk N) (vm : vMN m h2 N j) (hn : 5000 ≤ n) {k : Nat} (hk : k < N 3) : f11_isHidden K2 n m (nI k) h2 = some (if (fN (hdP N k) 0 k).isSome = true then 1 else 0) := by
  have b3 := ok.2.2.2.1
  have b0 := ok.1
  obtain ⟨k1, k2, k3⟩ := m_rt3 (K2 := K2) (n := n) vm (show k < 12 by omega)
  obtain ⟨p1, ⟨p2, p3⟩, ⟨p4, -⟩, -⟩ := ok.2.2.2.2.2.2.2.2.1 k hk
  have go : ∀ (d i fu : Nat), i + d = k → d < fu → f11_isHidden_L2 K2 n m (nI k) h2 fu (nI i) = some (if (fN (hdP N k) i d).isSome = true then 1 else 0) := by
    intro d
    induction d with
    | zero =>
      intro i fu hi hf
      obtain ⟨fu, rfl⟩ : ∃ g, fu = g + 1 := ⟨fu - 1, by omega⟩
      have e1 : nI k ≤ nI i := nI_le (by omega) (by omega)
      rw [f11_isHidden_L2, if_pos e1]; rfl
    | succ d ih =>
      intro i fu hi hf
      obtain ⟨fu, rfl⟩ : ∃ g, fu = g + 1 := ⟨fu - 1, by omega⟩
      have e1 : ¬ nI k ≤ nI i := nI_ge (by omega) (by omega)
      obtain ⟨i1, i2, i3⟩ := m_rt3 (K2 := K2) (n := n) vm (show i < 12 by omega)
      obtain ⟨q1, ⟨q2, q3⟩, ⟨q4, -⟩, -⟩ := ok.2.2.2.2.2.2.2.2.1 i (by omega)
      have e5 := ih (i + 1) fu (by omega) (by omega)
      rw [f11_isHidden_L2, if_neg e1, i1, x_bp, k1, x_bp, i2, x_bp, k2, x_bp, i3, x_bp, k3, x_bp, x_lt, nI_1, e5, fN]
      simp only [x_eq (show N (56 + 4 * i) < 2147483648 by omega) (show N (56 + 4 * k) < 2147483648 by omega), x_eq (show N (57 + 4 * i) < 2147483648 by omega) (show N (57 + 4 * k) < 2147483648 by omega), x_eq (show N (58 + 4 * i) < 2147483648 by omega) (show N (58 + 4 * k) < 2147483648 by omega)]
      by_cases c1 : N (56 + 4 * i) = N (56 + 4 * k)
      · rw [if_pos c1]
        by_cases c2 : N (57 + 4 * i) = N (57 + 4 * k)
        · rw [if_pos c2]
          by_cases c3 : N (58 + 4 * i) = N (58 + 4 * k)
          · rw [if_pos c3, if_pos (show hdP N k i = true by simp [hdP, c1, c2, c3])]; rfl
          · rw [if_neg c3, if_neg (show ¬ hdP N k i = true by simp [hdP, c3])]
        · rw [if_neg c2, if_neg (show ¬ hdP N k i = true by simp [hdP, c2])]
      · rw [if_neg c1, if_neg (show ¬ hdP N k i = true by simp [hdP, c1])]
  exact go k 0 n (by omega) (by omega)
theorem m_isServed (ok : nOk N) (vm : vMN m h2 N j) (hn : 5000 ≤ n) {k : Nat} (hk : k < N 4) : f11_isServed K2 n m (nI k) h2 = some (if (fN (svP N k) 0 (N 4)).isSome = true then 1 else 0) := by
  have b4 := ok.2.2.2.2.1
  have b0 := ok.1
  obtain ⟨k1, k2⟩ := m_sv2 (K2 := K2) (n := n) vm (show k < 6 by omega)
  obtain ⟨p1, ⟨p2, p3⟩, -⟩ := ok.2.2.2.2.2.2.2.2.2 k hk
  have go : ∀ (d i fu : Nat), i + d = N 4 → d < fu → f11_isServed_L2 K2 n m (nI k) h2 fu (nI i) = some (if (fN (svP N k) i d).isSome = true then 1 else 0) := by
    intro d
    induction d with
    | zero =>
      intro i fu hi hf
      obtain ⟨fu, rfl⟩ : ∃ g, fu = g + 1 := ⟨fu - 1, by omega⟩
      have e1 : nI (N 4) ≤ nI i := nI_le (by omega) (by omega)
      rw [f11_isServed_L2, mserves vm, x_bp, if_pos e1]; rfl
    | succ d ih =>
      intro i fu hi hf
      obtain ⟨fu, rfl⟩ : ∃ g, fu = g + 1 := ⟨fu - 1, by omega⟩
      have e1 : ¬ nI (N 4) ≤ nI i := nI_ge (by omega) (by omega)
      obtain ⟨i1, i2⟩ := m_sv2 (K2 := K2) (n := n) vm (show i < 6 by omega)
      obtain ⟨q1, ⟨q2, q3⟩, -⟩ := ok.2.2.2.2.2.2.2.2.2 i (by omega)
      have e5 := ih (i + 1) fu (by omega) (by omega)
      rw [f11_isServed_L2, mserves vm, x_bp, if_neg e1, i1, x_bp, k1, x_bp, i2, x_bp, k2, x_bp, mbeg q2 q3 p3 (by omega), x_bp, x_lt, nI_1, e5, fN]
      simp only [x_eq (show i < 2147483648 by omega) (show k < 2147483648 by omega), x_eq (show N (104 + 3 * i) < 2147483648 by omega) (show N (104 + 3 * k) < 2147483648 by omega)]
      by_cases c0 : i = k
      · rw [if_pos c0, if_neg (show ¬ svP N k i = true by simp [svP, c0])]
      · rw [if_neg c0]
        by_cases c1 : N (104 + 3 * i) = N (104 + 3 * k)
        · rw [if_pos c1]
          by_cases c2 : beg (N (105 + 3 * i)) (N (105 + 3 * k)) = true
          · rw [if_pos c2, if_neg b_10, if_pos (show svP N k i = true by simp [svP, c0, c1, c2])]; rfl
          · rw [if_neg c2, if_pos rfl, if_neg (show ¬ svP N k i = true by simp [svP, c2])]
        · rw [if_neg c1, if_neg (show ¬ svP N k i = true by simp [svP, c1])]
  exact go (N 4) 0 n (by omega) (by omega)
/-- the last steps of a turn -/
theorem m_edJ {w k : Nat} {s : Int32} {b : Bool} {r : Int32 → Int32 → Option (Int32 × Hp)} (vm : vMN m h2 N j) (hw : w < 5) (hk : w = 0 → b = true → k < 6) : f11_edges_J177 K2 n r m (nI w) s (nI k) (if b = true then 1 else 0) h2 = r (if b = true then s ||| pI (edT N w k) else s) (nI (k + 1)) := by
  unfold f11_edges_J177 f11_edges_J202 f11_edges_J207
  simp only [x_lt, nI_1]
  cases b with
  | false => rw [if_pos (show (if false = true then (1 : Int32) else 0) = 0 by decide), if_neg (show ¬ false = true by decide), or_00]
  | true =>
    rw [if_pos rfl, if_neg b_10, if_pos rfl]
    by_cases h0 : w = 0
    · subst h0
      rw [if_pos (show nI 0 = (0 : Int32) from rfl), (m_sv2 vm (hk rfl rfl)).1, x_bp, x_pI]; rfl
    · have e0 : ¬ nI w = (0 : Int32) := nI_ne0 (by omega) (by omega)
      rw [if_neg e0, x_pI]
      unfold edT
      rw [if_neg h0]
theorem m_edges (ok : nOk N) (vm : mN m h2 j N (-1)) (hd : h2.1 m 26 = 0) (hn : 5000 ≤ n) {w : Nat} (hw : w < 5) : f11_edges_L34 K2 n m (nI w) h2 n 0 0 = some (orS (edC N w) (edT N w) 12 0 0, h2) := by
  have b0 := ok.1
  have b2 := ok.2.2.1
  have b3 := ok.2.2.2.1
  have b4 := ok.2.2.2.2.1
  have nn : h2.1 m 23 = nI (N 0) := vm.1.2.2.1
  have q : ∀ z : Nat, z < 2147483648 → (nI w = nI z) = (w = z) := fun z hz => x_eq (by omega) hz
  have q0 : (nI w = (0 : Int32)) = (w = 0) := q 0 (by omega)
  have q1 : (nI w = (1 : Int32)) = (w = 1) := q 1 (by omega)
  have q2 : (nI w = (2 : Int32)) = (w = 2) := q 2 (by omega)
  have q4 : (nI w = (4 : Int32)) = (w = 4) := q 4 (by omega)
  have go : ∀ (d k fu : Nat) (s : Int32), k + d = 12 → d < fu → f11_edges_L34 K2 n m (nI w) h2 fu s (nI k) = some (orS (edC N w) (edT N w) d k s, h2) := by
    intro d
    induction d with
    | zero =>
      intro k fu s hk hf
      obtain ⟨fu, rfl⟩ : ∃ g, fu = g + 1 := ⟨fu - 1, by omega⟩
      have e1 : (12 : Int32) ≤ nI k := by rw [l_12]; exact nI_le (by omega) (by omega)
      rw [f11_edges_L34, if_pos e1]; rfl
    | succ d ih =>
      intro k fu s hk hf
      obtain ⟨fu, rfl⟩ : ∃ g, fu = g + 1 := ⟨fu - 1, by omega⟩
      have e1 : ¬ (12 : Int32) ≤ nI k := by rw [l_12]; exact nI_ge (by omega) (by omega)
      have fin : ∀ b : Bool, b = edC N w k → f11_edges_J177 K2 n (f11_edges_L34 K2 n m (nI w) h2 fu) m (nI w) s (nI k) (if b = true then 1 else 0) h2 = some (orS (edC N w) (edT N w) (d + 1) k s, h2) := fun b hb => by
        rw [m_edJ vm.1 hw (fun h0 h1 => by
          rw [hb] at h1; subst h0
          simp [edC] at h1
          omega), ih (k + 1) fu _ (by omega) (by omega), orS, hb]
      have z0 : (0 : Int32) = if false = true then 1 else 0 := rfl
      rw [f11_edges_L34, if_neg e1, mserves vm.1, x_bp, x_bp, m_isN nn ok (by omega), x_bp, m_linksAt ok vm.1 hn (by omega), x_bp, mroutes vm.1, x_bp, f11_edges_J90, f11_edges_J121, f11_edges_J176]
      simp only [q0, q1, q2, q4, x_le (show N 4 < 2147483648 by omega) (show k < 2147483648 by omega), x_le (show N 3 < 2147483648 by omega) (show k < 2147483648 by omega)]
      by_cases w0 : w = 0
      · rw [if_pos w0]
        by_cases hc : N 4 ≤ k
        · rw [if_pos hc]
          exact fin false (by subst w0; simp [edC]; omega)
        · rw [if_neg hc]
          exact fin true (by subst w0; simp [edC]; omega)
      rw [if_neg w0]
      by_cases w1 : w = 1
      · rw [if_pos w1]
        by_cases hc : k < N 0
        · have ll := lnc_le (N := N) (nd := k) (N 2) 0 0
          rw [if_pos hc, if_neg b_10]
          by_cases hl : lnc N k (N 2) 0 0 = 1
          · rw [if_pos (show nI (lnc N k (N 2) 0 0) = (1 : Int32) by rw [hl]; rfl)]
            exact fin true (by subst w1; simp [edC, hc, hl])
          · rw [if_neg (show ¬ nI (lnc N k (N 2) 0 0) = (1 : Int32) by rw [l_1, x_eq (by omega) (by omega)]; exact hl)]
            exact fin false (by subst w1; simp [edC, hl])
        · rw [if_neg hc, if_pos rfl]
          exact fin false (by subst w1; simp [edC]; omega)
      rw [if_neg w1]
      by_cases w4 : w = 4
      · rw [if_pos w4]
        by_cases hc : N 4 ≤ k
        · rw [if_pos hc]
          exact fin false (by subst w4; simp [edC]; omega)
        · rw [if_neg hc, m_isServed ok vm.1 hn (by omega), x_bp]
          by_cases hl : (fN (svP N k) 0 (N 4)).isSome = true
          · rw [if_pos hl, if_neg b_10]
            exact fin true (by subst w4; simp [edC, hl]; omega)
          · rw [if_neg hl, if_pos rfl]
            exact fin false (by subst w4; simp [edC, hl])
      rw [if_neg w4]
      by_cases hc : N 3 ≤ k
      · rw [if_pos hc]
        refine fin false ?_
        rcases (show w = 2 ∨ w = 3 by omega) with w2 | w2
        · subst w2; simp [edC]; omega
        · subst w2; simp [edC]; omega
      rw [if_neg hc]
      obtain ⟨r0, r1, r2⟩ := m_rt3 (K2 := K2) (n := n) vm.1 (show k < 12 by omega)
      obtain ⟨p1, -, ⟨p4, -⟩, -⟩ := ok.2.2.2.2.2.2.2.2.1 k (by omega)
      by_cases w2 : w = 2
      · have mu := misUp (K := K2) (n := n) (m := m) ok vm.2 hd (a := N (56 + 4 * k)) (b := N (58 + 4 * k)) (by omega)
        rw [upL_0 ok] at mu
        rw [if_pos w2, r0, x_bp, r2, x_bp, mu, x_bp]
        by_cases hl : (lk0 N (6 * N (56 + 4 * k) + N (58 + 4 * k))).isSome = true
        · rw [if_pos hl, if_neg b_10]
          exact fin false (by subst w2; simp [edC, hl])
        · rw [if_neg hl, if_pos rfl]
          exact fin true (by subst w2; simp [edC, hl]; omega)
      · have w3 : w = 3 := by omega
        rw [if_neg w2, m_isHidden ok vm.1 hn (by omega), x_bp]
        by_cases hl : (fN (hdP N k) 0 k).isSome = true
        · rw [if_pos hl, if_neg b_10]
          exact fin true (by subst w3; simp [edC, hl]; omega)
        · rw [if_neg hl, if_pos rfl]
          exact fin false (by subst w3; simp [edC, hl])
  exact go 12 0 n 0 (by omega) (by omega)
end EdM
