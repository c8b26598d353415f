section EdC
variable {K1 K2 : Ly} {n x o m j : Nat} {h1 h2 : Hp} {N : Nat → Nat} {g : Gh} {a1 a2 : Int32}
theorem c_ed0 (ok : nOk N) (v : vN o h1 N) (hn : 5000 ≤ n) : f2_serversAsBits K1 n o h1 = some (orS (edC N 0) (edT N 0) 12 0 0) := by
  have b4 := ok.2.2.2.2.1
  have b0 := ok.1
  have go : ∀ (d k fu : Nat) (s : Int32), k + d = N 4 → d < fu → f2_serversAsBits_L4 K1 n o h1 fu s (nI k) = some (orS (edC N 0) (edT N 0) d k s) := by
    intro d
    induction d with
    | zero =>
      intro k fu s hk hf
      obtain ⟨fu, rfl⟩ : ∃ g, fu = g + 1 := ⟨fu - 1, by omega⟩
      have e1 : nI (N 4) ≤ nI k := nI_le (by omega) (by omega)
      rw [f2_serversAsBits_L4, v.1 4 (by omega), if_pos e1]; rfl
    | succ d ih =>
      intro k fu s hk hf
      obtain ⟨fu, rfl⟩ : ∃ g, fu = g + 1 := ⟨fu - 1, by omega⟩
      have e1 : ¬ nI (N 4) ≤ nI k := nI_ge (by omega) (by omega)
      have w := (v.2.2.2.2.2 k (by omega)).1
      rw [f2_serversAsBits_L4, v.1 4 (by omega), if_neg e1, x_in (show k < 6 by omega) (by omega), x_gd, x_lt, x_lt, nI_1, x_cl (by omega), w, x_pI, ih (k + 1) fu _ (by omega) (by omega), orS, if_pos (show edC N 0 k = true by simp [edC]; omega)]; rfl
  have := go (N 4) 0 n 0 (by omega) (by omega)
  rw [← orS_cut (b := 12) (by omega) (fun i h1 h2 => by simp [edC]; omega)] at this
  exact this
theorem c_lnk (ok : nOk N) (v : vN o h1 N) {nd : Nat} (hnd : nd < N 0) {s0 : Int32} (r : Int32 → Int32 → Option Int32) : ∀ (d i s fu : Nat), i + d = N 2 → d < fu → s + d ≤ 15 → f2_leavesAsBits_L17 K1 n o s0 (nI nd) h1 r fu (nI s) (nI i) = r (if lnc N nd d i s = 1 then s0 ||| pI nd else s0) (nI (nd + 1)) := by
  have b2 := ok.2.2.1
  have b0 := ok.1
  intro d
  induction d with
  | zero =>
    intro i s fu hi hf hs
    obtain ⟨fu, rfl⟩ : ∃ g, fu = g + 1 := ⟨fu - 1, by omega⟩
    have e1 : nI (N 2) ≤ nI i := nI_le (by omega) (by omega)
    have q1 : (nI s = (1 : Int32)) = (s = 1) := x_eq (ab := 1) (by omega) (by omega)
    rw [f2_leavesAsBits_L17, v.1 2 (by omega), if_pos e1, f2_leavesAsBits_J70, x_lt, x_lt, nI_1, x_pI, lnc]
    simp only [q1]
    by_cases hc : s = 1
    · rw [if_pos hc, if_pos hc]
    · rw [if_neg hc, if_neg hc, or_00]
  | succ d ih =>
    intro i s fu hi hf hs
    obtain ⟨fu, rfl⟩ : ∃ g, fu = g + 1 := ⟨fu - 1, by omega⟩
    have e1 : ¬ nI (N 2) ≤ nI i := nI_ge (by omega) (by omega)
    obtain ⟨c1, c2, -⟩ := ok.2.2.2.2.2.2.1 i (by omega)
    obtain ⟨w1, w2, -⟩ := v.2.2.1 i (by omega)
    rw [f2_leavesAsBits_L17, v.1 2 (by omega), if_neg e1, x_in (show i < 15 by omega) (by omega), x_gd, x_gd, x_lt, x_lt, x_lt, nI_1, nI_1, x_cl (by omega), w1, w2, lnc]
    simp only [x_eq (show N (11 + 3 * i) < 2147483648 by omega) (show nd < 2147483648 by omega), x_eq (show N (12 + 3 * i) < 2147483648 by omega) (show nd < 2147483648 by omega)]
    by_cases h0 : N (11 + 3 * i) = nd
    · rw [if_pos h0, if_pos (Or.inl h0), ih (i + 1) (s + 1) fu (by omega) (by omega) (by omega)]
    · rw [if_neg h0]
      by_cases h1 : N (12 + 3 * i) = nd
      · rw [if_pos h1, if_pos (Or.inr h1), ih (i + 1) (s + 1) fu (by omega) (by omega) (by omega)]
      · rw [if_neg h1, if_neg (show ¬ (N (11 + 3 * i) = nd ∨ N (12 + 3 * i) = nd) from fun hh => hh.elim h0 h1), ih (i + 1) s fu (by omega) (by omega) (by omega)]
theorem c_ed1 (ok : nOk N) (v : vN o h1 N) (hn : 5000 ≤ n) : f2_leavesAsBits K1 n o h1 = some (orS (edC N 1) (edT N 1) 12 0 0) := by
  have b0 := ok.1
  have b2 := ok.2.2.1
  have go : ∀ (d k fu : Nat) (s : Int32), k + d = N 0 → d < fu → f2_leavesAsBits_L4 K1 n o h1 fu s (nI k) = some (orS (edC N 1) (edT N 1) d k s) := by
    intro d
    induction d with
    | zero =>
      intro k fu s hk hf
      obtain ⟨fu, rfl⟩ : ∃ g, fu = g + 1 := ⟨fu - 1, by omega⟩
      have e1 : nI (N 0) ≤ nI k := nI_le (by omega) (by omega)
      rw [f2_leavesAsBits_L4, v.1 0 (by omega), if_pos e1]; rfl
    | succ d ih =>
      intro k fu s hk hf
      obtain ⟨fu, rfl⟩ : ∃ g, fu = g + 1 := ⟨fu - 1, by omega⟩
      have e1 : ¬ nI (N 0) ≤ nI k := nI_ge (by omega) (by omega)
      have ln := c_lnk (K1 := K1) (n := n) ok v (show k < N 0 by omega) (s0 := s) (f2_leavesAsBits_L4 K1 n o h1 fu) (N 2) 0 0 n (by omega) (by omega) (by omega)
      have ln : f2_leavesAsBits_L17 K1 n o s (nI k) h1 (f2_leavesAsBits_L4 K1 n o h1 fu) n 0 0 = _ := ln
      rw [f2_leavesAsBits_L4, v.1 0 (by omega), if_neg e1, ln, ih (k + 1) fu _ (by omega) (by omega), orS]
      by_cases hl : lnc N k (N 2) 0 0 = 1
      · rw [if_pos hl, if_pos (show edC N 1 k = true by simp [edC, hl]; omega)]; rfl
      · rw [if_neg hl, if_neg (show ¬ edC N 1 k = true by simp [edC, hl])]
  have := go (N 0) 0 n 0 (by omega) (by omega)
  rw [← orS_cut (b := 12) (by omega) (fun i h1 h2 => by simp [edC]; omega)] at this
  exact this
theorem c_ed2 (ok : nOk N) (v : vN o h1 N) (hn : 5000 ≤ n) : f2_blindAsBits K1 n o h1 = some (orS (edC N 2) (edT N 2) 12 0 0) := by
  have b3 := ok.2.2.2.1
  have b0 := ok.1
  have go : ∀ (d k fu : Nat) (s : Int32), k + d = N 3 → d < fu → f2_blindAsBits_L4 K1 n o h1 fu s (nI k) = some (orS (edC N 2) (edT N 2) d k s) := by
    intro d
    induction d with
    | zero =>
      intro k fu s hk hf
      obtain ⟨fu, rfl⟩ : ∃ g, fu = g + 1 := ⟨fu - 1, by omega⟩
      have e1 : nI (N 3) ≤ nI k := nI_le (by omega) (by omega)
      rw [f2_blindAsBits_L4, v.1 3 (by omega), if_pos e1]; rfl
    | succ d ih =>
      intro k fu s hk hf
      obtain ⟨fu, rfl⟩ : ∃ g, fu = g + 1 := ⟨fu - 1, by omega⟩
      have e1 : ¬ nI (N 3) ≤ nI k := nI_ge (by omega) (by omega)
      obtain ⟨w1, -, w3, -⟩ := v.2.2.2.2.1 k (by omega)
      obtain ⟨p1, -, ⟨p4, -⟩, -⟩ := ok.2.2.2.2.2.2.2.2.1 k (by omega)
      rw [f2_blindAsBits_L4, v.1 3 (by omega), if_neg e1, x_in (show k < 12 by omega) (by omega), x_gd, x_gd, x_cl (by omega), w1, w3, c_linkB ok v p1 p4, x_bp, x_lt, nI_1, x_pI, ih (k + 1) fu _ (by omega) (by omega), orS]
      simp only [oI_lk ok]
      by_cases hl : (lk0 N (6 * N (56 + 4 * k) + N (58 + 4 * k))).isSome = true
      · rw [if_neg (fun hh => hh hl), if_neg (show ¬ edC N 2 k = true by simp [edC, hl])]
      · rw [if_pos hl, if_pos (show edC N 2 k = true by simp [edC, hl]; omega)]; rfl
  have := go (N 3) 0 n 0 (by omega) (by omega)
  rw [← orS_cut (b := 12) (by omega) (fun i h1 h2 => by simp [edC]; omega)] at this
  exact this
theorem c_hid (ok : nOk N) (v : vN o h1 N) {k : Nat} (hk : k < N 3) (r : Int32 → Int32 → Option Int32) {s0 : Int32} : ∀ (d i fu : Nat) (b : Bool), i + d = k → d < fu → f2_hiddenAsBits_L14 K1 n o (nI k) h1 r fu (if b = true then s0 ||| pI k else s0) (nI i) = r (if (b || (fN (hdP N k) i d).isSome) = true then s0 ||| pI k else s0) (nI (k + 1)) := by
  have b3 := ok.2.2.2.1
  have b0 := ok.1
  obtain ⟨p1, ⟨p2, p3⟩, ⟨p4, -⟩, -⟩ := ok.2.2.2.2.2.2.2.2.1 k hk
  obtain ⟨u1, u2, u3, -⟩ := v.2.2.2.2.1 k hk
  intro d
  induction d with
  | zero =>
    intro i fu b hi hf
    obtain ⟨fu, rfl⟩ : ∃ g, fu = g + 1 := ⟨fu - 1, by omega⟩
    have e1 : nI k ≤ nI i := nI_le (by omega) (by omega)
    rw [f2_hiddenAsBits_L14, if_pos e1, x_lt, nI_1, fN, Option.isSome_none, Bool.or_false]
  | succ d ih =>
    intro i fu b hi hf
    obtain ⟨fu, rfl⟩ : ∃ g, fu = g + 1 := ⟨fu - 1, by omega⟩
    have e1 : ¬ nI k ≤ nI i := nI_ge (by omega) (by omega)
    obtain ⟨q1, ⟨q2, q3⟩, ⟨q4, -⟩, -⟩ := ok.2.2.2.2.2.2.2.2.1 i (by omega)
    obtain ⟨w1, w2, w3, -⟩ := v.2.2.2.2.1 i (by omega)
    have i1 : inb (nI i) 12 = true := x_in (by omega) (by omega)
    have i2 : inb (nI k) 12 = true := x_in (by omega) (by omega)
    have i3 : (nI i).toNatClampNeg = i := x_cl (by omega)
    have i4 : (nI k).toNatClampNeg = k := x_cl (by omega)
    rw [f2_hiddenAsBits_L14, if_neg e1, f2_hiddenAsBits_J53]
    simp only [f2_hiddenAsBits_J54, i1, i2, i3, i4, x_gd, x_lt, nI_1, x_pI, w1, w2, w3, u1, u2, u3, x_eq (show N (56 + 4 * i) < 2147483648 by omega) (show N (56 + 4 * k) < 2147483648 by omega), x_eq (show N (57 + 4 * i) < 2147483648 by omega) (show N (57 + 4 * k) < 2147483648 by omega), x_eq (show N (58 + 4 * i) < 2147483648 by omega) (show N (58 + 4 * k) < 2147483648 by omega), if_true]
    have no : ¬ hdP N k i = true → f2_hiddenAsBits_L14 K1 n o (nI k) h1 r fu (if b = true then s0 ||| pI k else s0) (nI (i + 1)) = r (if (b || (fN (hdP N k) i (d + 1)).isSome) = true then s0 ||| pI k else s0) (nI (k + 1)) := fun hh => by
      rw [ih (i + 1) fu b (by omega) (by omega), fN, if_neg hh]
    by_cases c1 : N (56 + 4 * i) = N (56 + 4 * k)
    · rw [if_pos c1]
      by_cases c3 : N (58 + 4 * i) = N (58 + 4 * k)
      · rw [if_pos c3, if_neg b_10]
        by_cases c2 : N (57 + 4 * i) = N (57 + 4 * k)
        · have e5 : (if b = true then s0 ||| pI k else s0) ||| pI k = if true = true then s0 ||| pI k else s0 := by
            cases b with
            | false => rfl
            | true => exact pI_id (by omega)
          rw [if_pos c2, e5, ih (i + 1) fu true (by omega) (by omega), fN, if_pos (show hdP N k i = true by simp [hdP, c1, c2, c3])]
          simp
        · rw [if_neg c2]; exact no (by simp [hdP, c2])
      · rw [if_neg c3, if_pos rfl]; exact no (by simp [hdP, c3])
    · rw [if_neg c1]; exact no (by simp [hdP, c1])
theorem c_ed3 (ok : nOk N) (v : vN o h1 N) (hn : 5000 ≤ n) : f2_hiddenAsBits K1 n o h1 = some (orS (edC N 3) (edT N 3) 12 0 0) := by
  have b3 := ok.2.2.2.1
  have b0 := ok.1
  have go : ∀ (d k fu : Nat) (s : Int32), k + d = N 3 → d < fu → f2_hiddenAsBits_L4 K1 n o h1 fu s (nI k) = some (orS (edC N 3) (edT N 3) d k s) := by
    intro d
    induction d with
    | zero =>
      intro k fu s hk hf
      obtain ⟨fu, rfl⟩ : ∃ g, fu = g + 1 := ⟨fu - 1, by omega⟩
      have e1 : nI (N 3) ≤ nI k := nI_le (by omega) (by omega)
      rw [f2_hiddenAsBits_L4, v.1 3 (by omega), if_pos e1]; rfl
    | succ d ih =>
      intro k fu s hk hf
      obtain ⟨fu, rfl⟩ : ∃ g, fu = g + 1 := ⟨fu - 1, by omega⟩
      have e1 : ¬ nI (N 3) ≤ nI k := nI_ge (by omega) (by omega)
      have ln := c_hid (K1 := K1) (n := n) ok v (show k < N 3 by omega) (f2_hiddenAsBits_L4 K1 n o h1 fu) (s0 := s) k 0 n false (by omega) (by omega)
      rw [if_neg (by decide), Bool.false_or] at ln
      have ln : f2_hiddenAsBits_L14 K1 n o (nI k) h1 (f2_hiddenAsBits_L4 K1 n o h1 fu) n s 0 = _ := ln
      rw [f2_hiddenAsBits_L4, v.1 3 (by omega), if_neg e1, ln, ih (k + 1) fu _ (by omega) (by omega), orS]
      by_cases hl : (fN (hdP N k) 0 k).isSome = true
      · rw [if_pos hl, if_pos (show edC N 3 k = true by simp [edC, hl]; omega)]; rfl
      · rw [if_neg hl, if_neg (show ¬ edC N 3 k = true by simp [edC, hl])]
  have := go (N 3) 0 n 0 (by omega) (by omega)
  rw [← orS_cut (b := 12) (by omega) (fun i h1 h2 => by simp [edC]; omega)] at this
  exact this
theorem c_srv (ok : nOk N) (hn : 5000 ≤ n) (v : vN o h1 N) {k : Nat} (hk : k < N 4) (r : Int32 → Int32 → Option Int32) {s0 : Int32} : ∀ (d i fu : Nat) (b : Bool), i + d = N 4 → d < fu → f2_servedAsBits_L14 K1 n o (nI k) h1 r fu (if b = true then s0 ||| pI k else s0) (nI i) = r (if (b || (fN (svP N k) i d).isSome) = true then s0 ||| pI k else s0) (nI (k + 1)) := by
  have b4 := ok.2.2.2.2.1
  have b0 := ok.1
  obtain ⟨p1, ⟨p2, p3⟩, -⟩ := ok.2.2.2.2.2.2.2.2.2 k hk
  obtain ⟨u1, u2, -⟩ := v.2.2.2.2.2 k hk
  intro d
  induction d with
  | zero =>
    intro i fu b hi hf
    obtain ⟨fu, rfl⟩ : ∃ g, fu = g + 1 := ⟨fu - 1, by omega⟩
    have e1 : nI (N 4) ≤ nI i := nI_le (by omega) (by omega)
    rw [f2_servedAsBits_L14, v.1 4 (by omega), if_pos e1, x_lt, nI_1, fN, Option.isSome_none, Bool.or_false]
  | succ d ih =>
    intro i fu b hi hf
    obtain ⟨fu, rfl⟩ : ∃ g, fu = g + 1 := ⟨fu - 1, by omega⟩
    have e1 : ¬ nI (N 4) ≤ nI i := nI_ge (by omega) (by omega)
    obtain ⟨q1, ⟨q2, q3⟩, -⟩ := ok.2.2.2.2.2.2.2.2.2 i (by omega)
    obtain ⟨w1, w2, -⟩ := v.2.2.2.2.2 i (by omega)
    have i1 : inb (nI i) 6 = true := x_in (by omega) (by omega)
    have i2 : inb (nI k) 6 = true := x_in (by omega) (by omega)
    have i3 : (nI i).toNatClampNeg = i := x_cl (by omega)
    have i4 : (nI k).toNatClampNeg = k := x_cl (by omega)
    have cb := cbeg (K := K1) (n := n) (h := h1) q2 q3 p3 (by omega)
    rw [f2_servedAsBits_L14, v.1 4 (by omega), if_neg e1, f2_servedAsBits_J46]
    simp only [f2_servedAsBits_J47, i1, i2, i3, i4, x_gd, x_lt, nI_1, x_pI, w1, w2, u1, u2, cb, x_bp, x_eq (show i < 2147483648 by omega) (show k < 2147483648 by omega), x_eq (show N (104 + 3 * i) < 2147483648 by omega) (show N (104 + 3 * k) < 2147483648 by omega), if_true]
    have no : ¬ svP N k i = true → f2_servedAsBits_L14 K1 n o (nI k) h1 r fu (if b = true then s0 ||| pI k else s0) (nI (i + 1)) = r (if (b || (fN (svP N k) i (d + 1)).isSome) = true then s0 ||| pI k else s0) (nI (k + 1)) := fun hh => by
      rw [ih (i + 1) fu b (by omega) (by omega), fN, if_neg hh]
    by_cases c0 : i = k
    · rw [if_pos c0]; exact no (by simp [svP, c0])
    · rw [if_neg c0]
      by_cases c1 : N (104 + 3 * i) = N (104 + 3 * k)
      · rw [if_pos c1, if_neg b_10]
        by_cases c2 : beg (N (105 + 3 * i)) (N (105 + 3 * k)) = true
        · have e5 : (if b = true then s0 ||| pI k else s0) ||| pI k = if true = true then s0 ||| pI k else s0 := by
            cases b with
            | false => rfl
            | true => exact pI_id (by omega)
          rw [if_pos c2, if_neg b_10, e5, ih (i + 1) fu true (by omega) (by omega), fN, if_pos (show svP N k i = true by simp [svP, c0, c1, c2])]
          simp
        · rw [if_neg c2, if_pos rfl]; exact no (by simp [svP, c2])
      · rw [if_neg c1, if_pos rfl]; exact no (by simp [svP, c1])
theorem c_ed4 (ok : nOk N) (v : vN o h1 N) (hn : 5000 ≤ n) : f2_servedAsBits K1 n o h1 = some (orS (edC N 4) (edT N 4) 12 0 0) := by
  have b4 := ok.2.2.2.2.1
  have b0 := ok.1
  have go : ∀ (d k fu : Nat) (s : Int32), k + d = N 4 → d < fu → f2_servedAsBits_L4 K1 n o h1 fu s (nI k) = some (orS (edC N 4) (edT N 4) d k s) := by
    intro d
    induction d with
    | zero =>
      intro k fu s hk hf
      obtain ⟨fu, rfl⟩ : ∃ g, fu = g + 1 := ⟨fu - 1, by omega⟩
      have e1 : nI (N 4) ≤ nI k := nI_le (by omega) (by omega)
      rw [f2_servedAsBits_L4, v.1 4 (by omega), if_pos e1]; rfl
    | succ d ih =>
      intro k fu s hk hf
      obtain ⟨fu, rfl⟩ : ∃ g, fu = g + 1 := ⟨fu - 1, by omega⟩
      have e1 : ¬ nI (N 4) ≤ nI k := nI_ge (by omega) (by omega)
      have ln := c_srv (K1 := K1) ok hn v (show k < N 4 by omega) (f2_servedAsBits_L4 K1 n o h1 fu) (s0 := s) (N 4) 0 n false (by omega) (by omega)
      rw [if_neg (by decide), Bool.false_or] at ln
      have ln : f2_servedAsBits_L14 K1 n o (nI k) h1 (f2_servedAsBits_L4 K1 n o h1 fu) n s 0 = _ := ln
      rw [f2_servedAsBits_L4, v.1 4 (by omega), if_neg e1, ln, ih (k + 1) fu _ (by omega) (by omega), orS]
      by_cases hl : (fN (svP N k) 0 (N 4)).isSome = true
      · rw [if_pos hl, if_pos (show edC N 4 k = true by simp [edC, hl]; omega)]; rfl
      · rw [if_neg hl, if_neg (show ¬ edC N 4 k = true by simp [edC, hl])]
  have := go (N 4) 0 n 0 (by omega) (by omega)
  rw [← orS_cut (b := 12) (by omega) (fun i h1 h2 => by simp [edC]; omega)] at this
  exact this
theorem both_edges (kx : KX K1 x) (hn : 5000 ≤ n) (v : XX x h1 m h2) : CP x m h1 (f0_edges K1 n x a1 a2 h1) (f11_edges K2 n m a1 a2 h2) := by
  obtain ⟨g, vg⟩ := v.2.2.1
  have tr := v.1 0 (by omega)
  have c0 := vg.1.2.1 0 (by omega)
  by_cases hi : isI a1 (g_c g 0)
  · obtain ⟨i, li, rfl⟩ := isI_of (by omega) hi
    have ok := vg.1.2.2.1 i li
    obtain ⟨g2, e1, vmn, ch1, xz⟩ := one_yes (K2 := K2) (n := n) v vg li
    have cf := fun (b : Option Int32) (F : Nat → Option Int32) => c_one (n := n) (b := b) (F := F) kx tr vg li
    obtain ⟨-, ko, vn⟩ := cf none (fun _ => none)
    have cs : f0_edges K1 n x (nI i) a2 h1 = if a2 = (0 : Int32) then some (orS (edC (g_N g i) 0) (edT (g_N g i) 0) 12 0 0) else if a2 = (1 : Int32) then some (orS (edC (g_N g i) 1) (edT (g_N g i) 1) 12 0 0) else if a2 = (2 : Int32) then some (orS (edC (g_N g i) 2) (edT (g_N g i) 2) 12 0 0) else if a2 = (3 : Int32) then some (orS (edC (g_N g i) 3) (edT (g_N g i) 3) 12 0 0) else if a2 = (4 : Int32) then some (orS (edC (g_N g i) 4) (edT (g_N g i) 4) 12 0 0) else some (-1) := by
      unfold f0_edges
      refine (cf _ _).1.trans ?_
      rw [c_ed0 ok vn hn, x_bp, c_ed1 ok vn hn, x_bp, c_ed2 ok vn hn, x_bp, c_ed3 ok vn hn, x_bp, c_ed4 ok vn hn, x_bp]
    by_cases h5 : isI a2 5
    · obtain ⟨w, lw, rfl⟩ := isI_of (by omega) h5
      obtain ⟨k2, s1, s2, s3⟩ := mbegin (K := K2) (-1) (fun _ _ => 0) ok hn vmn
      have i1 : f11_in (nI w) (0 : Int32) (4 : Int32) = 1 := by
        have := m_inQ (k := w) (q := 4) (by omega) (by omega)
        rw [if_pos (by omega)] at this
        exact this
      refine ⟨orS (edC (g_N g i) w) (edT (g_N g i) w) 12 0 0, k2, ?_, ?_, xz.zz s3 (by decide)⟩
      · rw [cs]
        rcases (show w = 0 ∨ w = 1 ∨ w = 2 ∨ w = 3 ∨ w = 4 by omega) with rfl | rfl | rfl | rfl | rfl <;> rfl
      · unfold f11_edges
        rw [x_lt, e1, x_bd, if_neg b_10, i1, if_neg b_10, s1, x_bp, m_edges ok s2.1 s2.2.2.1 hn lw]
    · have nn : ∀ k : Nat, k < 5 → ¬ a2 = nI k := fun k hk hh => h5 (hh ▸ isI_nI (by omega) hk)
      refine ⟨-1, g2, ?_, ?_, xz⟩
      · rw [cs, if_neg (show ¬ a2 = (0 : Int32) from nn 0 (by omega)), if_neg (show ¬ a2 = (1 : Int32) from nn 1 (by omega)), if_neg (show ¬ a2 = (2 : Int32) from nn 2 (by omega)), if_neg (show ¬ a2 = (3 : Int32) from nn 3 (by omega)), if_neg (show ¬ a2 = (4 : Int32) from nn 4 (by omega))]
      · have i1 : f11_in a2 (0 : Int32) (4 : Int32) = 0 := m_inN (q := 4) (by omega) h5
        unfold f11_edges
        rw [x_lt, e1, x_bd, if_neg b_10, i1, if_pos rfl]
  · obtain ⟨k1, e1, xz⟩ := one_no (K2 := K2) (n := n) v vg hi
    refine ⟨-1, k1, ?_, ?_, xz⟩
    · unfold f0_edges
      exact c_oneNo vg hi
    · unfold f11_edges
      rw [x_lt, e1, x_bd, if_pos rfl]
end EdC
