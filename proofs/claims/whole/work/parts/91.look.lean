/-! what is seen of a run, on both sides -/
section Look
variable {K1 K2 : Ly} {n c o m j : Nat} {h1 h2 : Hp} {N : Nat → Nat} {aw : Int32} {kb : Nat} {st : St}
theorem c_hasN {x : Nat} (v : vN o h1 N) (ok : nOk N) (hx : x < 2147483648) : f2_hasNode o (nI x) h1 = if x < N 0 then 1 else 0 := by
  have b0 := ok.1
  unfold f2_hasNode
  rw [if_neg (nI_pos hx), v.1 0 (by omega)]
  simp only [x_le (show N 0 < 2147483648 by omega) hx]
  by_cases hc : x < N 0
  · rw [if_neg (by omega), if_pos hc]
  · rw [if_pos (by omega), if_neg hc]
theorem c_hasNeg {x : Int32} (hx : x < 0) : f2_hasNode o x h1 = 0 := by unfold f2_hasNode; rw [if_pos hx]
theorem m_isN {x : Nat} (nn : h2.1 m 23 = nI (N 0)) (ok : nOk N) (hx : x < 2147483648) : f11_isNode K2 n m (nI x) h2 = some (if x < N 0 then 1 else 0) := by
  have b0 := ok.1
  have e1 : f11_in (nI x) 0 (nI (N 0) - 1) = if x < N 0 then 1 else 0 := by
    rw [x_sub1 (by omega)]
    unfold f11_in
    rw [if_neg (nI_pos hx)]
    simp only [x_lt' (show N 0 - 1 < 2147483648 by omega) hx]
    by_cases hc : x < N 0
    · rw [if_neg (by omega), if_pos hc]
    · rw [if_pos (by omega), if_neg hc]
  unfold f11_isNode
  rw [nn, e1]
  by_cases hc : x < N 0
  · rw [if_pos hc]; rfl
  · rw [if_neg hc]; rfl
theorem m_isNeg {x : Int32} (hx : x < 0) : f11_isNode K2 n m x h2 = some 0 := by
  unfold f11_isNode f11_in; rw [if_pos hx]; rfl
theorem m_ones {x : Int32} (hn : 100 ≤ n) : f11_ones K2 n x h2 = some (nI (cb x 15 0)) := by
  have go : ∀ (d i s fu : Nat), i + d = 15 → d < fu → f11_ones_L4 K2 n x h2 fu (nI s) (nI i) = some (nI (s + cb x d i)) := by
    intro d
    induction d with
    | zero =>
      intro i s fu hi hf
      obtain ⟨fu, rfl⟩ : ∃ g, fu = g + 1 := ⟨fu - 1, by omega⟩
      have e1 : (15 : Int32) ≤ nI i := by rw [l_15]; exact nI_le (by omega) (by omega)
      simp only [f11_ones_L4, if_pos e1, cb, Nat.add_zero]
    | succ d ih =>
      intro i s fu hi hf
      obtain ⟨fu, rfl⟩ : ∃ g, fu = g + 1 := ⟨fu - 1, by omega⟩
      have e1 : ¬ (15 : Int32) ≤ nI i := by rw [l_15]; exact nI_ge (by omega) (by omega)
      simp only [f11_ones_L4, if_neg e1, f11_ones_J24, x_lt, mhas (show i < 32 by omega), nI_1, cb]
      by_cases hb : bI x i = true
      · rw [if_pos hb, if_neg b_10, nI_1, ih (i + 1) (s + 1) fu (by omega) (by omega), if_pos hb, Nat.add_assoc]
      · rw [if_neg hb, if_pos rfl, l_0, nI_add, ih (i + 1) (s + 0) fu (by omega) (by omega), if_neg hb, Nat.add_zero, Nat.zero_add]
  have := go 15 0 0 n (by omega) (by omega)
  rw [Nat.zero_add] at this
  exact this
theorem m_onesL {x : Int64} (hn : 100 ≤ n) : f11_onesL K2 n x h2 = some (nI (cL6 x 64 0)) := by
  have go : ∀ (d i s fu : Nat), i + d = 64 → d < fu → f11_onesL_L4 K2 n x h2 fu (nI s) (nI i) = some (nI (s + cL6 x d i)) := by
    intro d
    induction d with
    | zero =>
      intro i s fu hi hf
      obtain ⟨fu, rfl⟩ : ∃ g, fu = g + 1 := ⟨fu - 1, by omega⟩
      have e1 : (64 : Int32) ≤ nI i := by rw [l_64]; exact nI_le (by omega) (by omega)
      simp only [f11_onesL_L4, if_pos e1, cL6, Nat.add_zero]
    | succ d ih =>
      intro i s fu hi hf
      obtain ⟨fu, rfl⟩ : ∃ g, fu = g + 1 := ⟨fu - 1, by omega⟩
      have e1 : ¬ (64 : Int32) ≤ nI i := by rw [l_64]; exact nI_ge (by omega) (by omega)
      simp only [f11_onesL_L4, if_neg e1, f11_onesL_J24, x_lt, mhasL (show i < 64 by omega), nI_1, cL6]
      by_cases hb : bL x i = true
      · rw [if_pos hb, if_neg b_10, nI_1, ih (i + 1) (s + 1) fu (by omega) (by omega), if_pos hb, Nat.add_assoc]
      · rw [if_neg hb, if_pos rfl, l_0, nI_add, ih (i + 1) (s + 0) fu (by omega) (by omega), if_neg hb, Nat.add_zero, Nat.zero_add]
  have := go 64 0 0 n (by omega) (by omega)
  rw [Nat.zero_add] at this
  exact this
theorem c_entriesAt {nd : Nat} {L : List En} (kc : KC K1 c) (hn : 400 ≤ n) (v : cvE c h1 L) : f10_entriesAt K1 n c (nI nd) h1 = some (nI (L.filter (atN nd)).length) := by
  have go : ∀ (w u : List En) (s fu : Nat), L = u ++ w → w.length < fu → f10_entriesAt_L4 K1 n c (nI nd) h1 fu (nI s) (nI u.length) = some (nI (s + (w.filter (atN nd)).length)) := by
    intro w
    induction w with
    | nil =>
      intro u s fu hl hf
      obtain ⟨fu, rfl⟩ : ∃ g, fu = g + 1 := ⟨fu - 1, by omega⟩
      have l := cvE_len v
      have l2 : L.length = u.length := by rw [hl]; simp
      have e0 : h1.1 c 6 ≤ nI u.length := by rw [l.2]; exact nI_le (by omega) (by omega)
      simp only [f10_entriesAt_L4, if_pos e0, List.filter_nil, List.length_nil, Nat.add_zero]
    | cons e w ih =>
      intro u s fu hl hf
      obtain ⟨fu, rfl⟩ : ∃ g, fu = g + 1 := ⟨fu - 1, by omega⟩
      have v' := v
      rw [hl] at v'
      obtain ⟨x, j1, j2, j3, j4, j5, j6, -⟩ := cvE_at v'
      have e0 : ¬ h1.1 c 6 ≤ nI u.length := by rw [j4]; exact nI_ge (by simp) (by omega)
      have e3 : inb (nI u.length) 360 = true := x_in (by omega) (by omega)
      have e4 : (nI u.length).toNatClampNeg = u.length := x_cl (by omega)
      have g0 : h1.1 (c + 23 + 2 * x) 0 = e.1 0 := j6.1 0 (by omega) (by omega) (by omega)
      simp only [f10_entriesAt_L4, if_neg e0, e3, e4, x_gd, j3, x_ob (kc.1 x j1), g0, x_lt, nI_1]
      by_cases hc : e.1 0 = nI nd
      · have := ih (u ++ [e]) (s + 1) fu (by simp [hl]) (by simp at hf; omega)
        rw [← len_sn (t := e)] at this
        rw [if_pos hc, this, List.filter_cons_of_pos (by simp [atN, hc]), List.length_cons]
        congr 2; omega
      · have := ih (u ++ [e]) s fu (by simp [hl]) (by simp at hf; omega)
        rw [← len_sn (t := e)] at this
        rw [if_neg hc, this, List.filter_cons_of_neg (by simp [atN, hc])]
  have l := cvE_len v
  have := go L [] 0 n rfl (by omega)
  rw [Nat.zero_add] at this
  exact this
theorem both_look (ok : nOk N) (kc : KC K1 c) (hn : 5000 ≤ n) (a : Int32) (V : WW K1 c h1 o m h2 j N aw kb st) : ∃ v, f10_look K1 n c a h1 = some v ∧ f11_ofState K2 n m a h2 = some v := by
  have b0 := ok.1
  obtain ⟨⟨vc, vm, I⟩, dk⟩ := id V
  obtain ⟨⟨n1, n2, n3, n4⟩, n5⟩ := id vc.1
  have nn : h2.1 m 23 = nI (N 0) := vm.1.1.2.2.1
  obtain ⟨v1, v2, v3, v4, v5, v6, v7, v8, v9, v10⟩ := id vc
  obtain ⟨w1, w2, w3, w4, w5, w6, w7, w8, w9, w10⟩ := id vm
  have c8 : h1.1 c 8 = nI (s_F st).length := by
    obtain ⟨pp, Le, p1, p2⟩ := v5
    rw [p1.2.2.2.1, p2.len]
  have c6 := (cvE_len v4).2
  have ma := m_all (K2 := K2) (n := n) ok nn w4 (by omega) (fun e he => (I.2.2.1 e he).1)
  have i10 : (10 : Int32) = nI 10 := rfl
  have s100 : ∀ x : Nat, x < 100 → nI x < (100 : Int32) := fun x hx => by rw [l_100]; exact nI_lt hx (by omega)
  by_cases hneg : a < 0
  · have ne : ∀ x : Nat, x < 2147483648 → ¬ a = nI x := fun x hx hh => nI_pos hx (hh ▸ hneg)
    have e10 : ¬ (10 : Int32) ≤ a := fun hh => by
      rw [Int32.lt_iff_toInt_lt] at hneg
      rw [Int32.le_iff_toInt_le] at hh
      have : (10 : Int32).toInt = 10 := rfl
      have : (0 : Int32).toInt = 0 := rfl
      omega
    have l100' : a < (100 : Int32) := by
      rw [Int32.lt_iff_toInt_lt] at hneg ⊢
      have : (100 : Int32).toInt = 100 := rfl
      have : (0 : Int32).toInt = 0 := rfl
      omega
    have n0 : ¬ a = (0 : Int32) := ne 0 (by omega)
    have n1 : ¬ a = (1 : Int32) := ne 1 (by omega)
    have n2 : ¬ a = (2 : Int32) := ne 2 (by omega)
    have n3 : ¬ a = (3 : Int32) := ne 3 (by omega)
    have n10 : ¬ a = (10 : Int32) := ne 10 (by omega)
    have n20 : ¬ a = (20 : Int32) := ne 20 (by omega)
    have n30 : ¬ a = (30 : Int32) := ne 30 (by omega)
    refine ⟨-2, ?_, ?_⟩
    · unfold f10_look
      rw [if_neg n0, if_neg n1, if_neg n2, if_neg n3, if_neg e10]
    · unfold f11_ofState f11_ofState_J74
      rw [if_pos l100', x_lt, if_neg e10, if_neg n0, if_neg n1, if_neg n2, if_neg n3, if_neg n10, if_neg n20, if_neg n30]
  · obtain ⟨x, hx, rfl⟩ := nI_of hneg
    have eq : ∀ y : Nat, y < 2147483648 → (nI x = nI y) = (x = y) := fun y hy => x_eq hx hy
    have q0 : (nI x = (0 : Int32)) = (x = 0) := eq 0 (by omega)
    have q1 : (nI x = (1 : Int32)) = (x = 1) := eq 1 (by omega)
    have q2 : (nI x = (2 : Int32)) = (x = 2) := eq 2 (by omega)
    have q3 : (nI x = (3 : Int32)) = (x = 3) := eq 3 (by omega)
    have q10 : ((10 : Int32) ≤ nI x) = (10 ≤ x) := by rw [i10]; exact x_le (by omega) hx
    by_cases hs : x < 10
    · have nl : ¬ 10 ≤ x := by omega
      have base : f11_ofState K2 n m (nI x) h2 = f11_ofState_J74 K2 n m (nI x - nI x / (10 : Int32) * (10 : Int32)) (nI x) h2 := by
        unfold f11_ofState
        rw [if_pos (s100 x (by omega)), x_lt, if_neg (by rw [q10]; exact nl)]
      rw [base]
      unfold f10_look f11_ofState_J74
      match x, hs with
      | 0, _ => exact ⟨nI (s_n st), by rw [if_pos (show nI 0 = (0 : Int32) from rfl), v2], by rw [if_pos (show nI 0 = (0 : Int32) from rfl), w2]⟩
      | 1, _ => exact ⟨nI (s_F st).length, by rw [if_neg (by decide), if_pos (show nI 1 = (1 : Int32) from rfl), c8], by rw [if_neg (by decide), if_pos (show nI 1 = (1 : Int32) from rfl), w5.1]⟩
      | 2, _ => exact ⟨nI (s_L st).length, by rw [if_neg (by decide), if_neg (by decide), if_pos (show nI 2 = (2 : Int32) from rfl), c6], by rw [if_neg (by decide), if_neg (by decide), if_pos (show nI 2 = (2 : Int32) from rfl), ma, x_bp]⟩
      | 3, _ => exact ⟨nI (cb (s_d st) 15 0), by rw [if_neg (by decide), if_neg (by decide), if_neg (by decide), if_pos (show nI 3 = (3 : Int32) from rfl), v3, bcI dk], by rw [if_neg (by decide), if_neg (by decide), if_neg (by decide), if_pos (show nI 3 = (3 : Int32) from rfl), w3, m_ones (by omega), x_bp]⟩
      | 4, _ => exact ⟨-2, by rw [if_neg (by decide), if_neg (by decide), if_neg (by decide), if_neg (by decide), if_neg (by decide)], by rw [if_neg (by decide), if_neg (by decide), if_neg (by decide), if_neg (by decide), if_neg (by decide), if_neg (by decide), if_neg (by decide)]⟩
      | 5, _ => exact ⟨-2, by rw [if_neg (by decide), if_neg (by decide), if_neg (by decide), if_neg (by decide), if_neg (by decide)], by rw [if_neg (by decide), if_neg (by decide), if_neg (by decide), if_neg (by decide), if_neg (by decide), if_neg (by decide), if_neg (by decide)]⟩
      | 6, _ => exact ⟨-2, by rw [if_neg (by decide), if_neg (by decide), if_neg (by decide), if_neg (by decide), if_neg (by decide)], by rw [if_neg (by decide), if_neg (by decide), if_neg (by decide), if_neg (by decide), if_neg (by decide), if_neg (by decide), if_neg (by decide)]⟩
      | 7, _ => exact ⟨-2, by rw [if_neg (by decide), if_neg (by decide), if_neg (by decide), if_neg (by decide), if_neg (by decide)], by rw [if_neg (by decide), if_neg (by decide), if_neg (by decide), if_neg (by decide), if_neg (by decide), if_neg (by decide), if_neg (by decide)]⟩
      | 8, _ => exact ⟨-2, by rw [if_neg (by decide), if_neg (by decide), if_neg (by decide), if_neg (by decide), if_neg (by decide)], by rw [if_neg (by decide), if_neg (by decide), if_neg (by decide), if_neg (by decide), if_neg (by decide), if_neg (by decide), if_neg (by decide)]⟩
      | 9, _ => exact ⟨-2, by rw [if_neg (by decide), if_neg (by decide), if_neg (by decide), if_neg (by decide), if_neg (by decide)], by rw [if_neg (by decide), if_neg (by decide), if_neg (by decide), if_neg (by decide), if_neg (by decide), if_neg (by decide), if_neg (by decide)]⟩
      | y + 10, h => omega
    · have r1 : nI x - nI x / (10 : Int32) * (10 : Int32) = nI (x % 10) := by rw [i10]; exact pk_rem hx (by omega) (by omega)
      have r2 : nI x / (10 : Int32) = nI (x / 10) := by rw [i10]; exact pk_div hx (by omega) (by omega)
      have xd : x / 10 < 2147483648 := by omega
      have t1 : (nI (x / 10) = (1 : Int32)) = (x / 10 = 1) := x_eq (ab := 1) xd (by omega)
      have t2 : (nI (x / 10) = (2 : Int32)) = (x / 10 = 2) := x_eq (ab := 2) xd (by omega)
      have t3 : (nI (x / 10) = (3 : Int32)) = (x / 10 = 3) := x_eq (ab := 3) xd (by omega)
      have cl : f10_look K1 n c (nI x) h1 = if x % 10 < N 0 then (if x / 10 = 1 then f10_entriesAt K1 n c (nI (x % 10)) h1 else if x / 10 = 2 then some (nI (s_S st (x % 10)).length) else if x / 10 = 3 then some (nI (cL6 (s_D st (x % 10)) 64 0)) else (if (f2_hasNode o (nI (x / 10) - (10 : Int32)) h1) = 0 then some (-2 : Int32) else gd (inb (((nI (x / 10) - (10 : Int32)) * (6 : Int32)) + nI (x % 10)) 36) <| some (h1.1 (c + 18) (((nI (x / 10) - (10 : Int32)) * (6 : Int32)) + nI (x % 10)).toNatClampNeg))) else some (-2) := by
        unfold f10_look
        rw [r1, r2]
        simp only [q0, q1, q2, q3, q10, if_neg (show ¬ x = 0 by omega), if_neg (show ¬ x = 1 by omega), if_neg (show ¬ x = 2 by omega), if_neg (show ¬ x = 3 by omega), if_pos (show 10 ≤ x by omega), x_lt, n1, x_ob n2, c_hasN n3 ok (show x % 10 < 2147483648 by omega), t1, t2, t3]
        by_cases hN : x % 10 < N 0
        · have i6 : inb (nI (x % 10)) 6 = true := x_in (by omega) (by omega)
          have i7 : (nI (x % 10)).toNatClampNeg = x % 10 := x_cl (by omega)
          rw [if_pos hN, if_neg b_10, if_pos hN]
          simp only [i6, i7, x_gd, (v8 (x % 10) (by omega)).1, x_ob (kc.2.2.1 (x % 10) (by omega)), (v8 (x % 10) (by omega)).2.2.1, v7 (x % 10) (by omega), bcL]
          split
          · cases f10_entriesAt K1 n c (nI (x % 10)) h1 <;> rfl
          · rfl
        · rw [if_neg hN, if_pos rfl, if_neg hN]
      rw [cl]
      by_cases hb : x < 100
      · -- below a hundred
        have r3 : (10 : Int32) * nI (x / 10) = nI (10 * (x / 10)) := by rw [i10, pk_mul]
        have ml : f11_ofState K2 n m (nI x) h2 = f11_ofState_J74 K2 n m (nI (x % 10)) (nI (10 * (x / 10))) h2 := by
          unfold f11_ofState
          rw [if_pos (s100 x hb), x_lt, r1, if_pos (by rw [q10]; omega), r2, r3]
        rw [ml]
        have neg : f2_hasNode o (nI (x / 10) - (10 : Int32)) h1 = 0 := c_hasNeg (by rw [i10]; exact pk_sneg (by omega) (by omega))
        have e0 : ∀ y : Nat, y < 2147483648 → (nI (10 * (x / 10)) = nI y) = (10 * (x / 10) = y) := fun y hy => x_eq (by omega) hy
        have z0 : (nI (10 * (x / 10)) = (0 : Int32)) = (10 * (x / 10) = 0) := e0 0 (by omega)
        have z1 : (nI (10 * (x / 10)) = (1 : Int32)) = (10 * (x / 10) = 1) := e0 1 (by omega)
        have z2 : (nI (10 * (x / 10)) = (2 : Int32)) = (10 * (x / 10) = 2) := e0 2 (by omega)
        have z3 : (nI (10 * (x / 10)) = (3 : Int32)) = (10 * (x / 10) = 3) := e0 3 (by omega)
        have z10 : (nI (10 * (x / 10)) = (10 : Int32)) = (10 * (x / 10) = 10) := e0 10 (by omega)
        have z20 : (nI (10 * (x / 10)) = (20 : Int32)) = (10 * (x / 10) = 20) := e0 20 (by omega)
        have z30 : (nI (10 * (x / 10)) = (30 : Int32)) = (10 * (x / 10) = 30) := e0 30 (by omega)
        have mJ : f11_ofState_J74 K2 n m (nI (x % 10)) (nI (10 * (x / 10))) h2 = if x % 10 < N 0 then (if x / 10 = 1 then some (nI ((s_L st).filter (atN (x % 10))).length) else if x / 10 = 2 then some (nI (s_S st (x % 10)).length) else if x / 10 = 3 then some (nI (cL6 (s_D st (x % 10)) 64 0)) else some (-2)) else some (-2) := by
          unfold f11_ofState_J74
          simp only [z0, z1, z2, z3, z10, z20, z30, if_neg (show ¬ 10 * (x / 10) = 0 by omega), if_neg (show ¬ 10 * (x / 10) = 1 by omega), if_neg (show ¬ 10 * (x / 10) = 2 by omega), if_neg (show ¬ 10 * (x / 10) = 3 by omega), m_isN nn ok (show x % 10 < 2147483648 by omega), x_bp]
          by_cases hN : x % 10 < N 0
          · have i6 : inb (nI (x % 10)) 6 = true := x_in (by omega) (by omega)
            have i7 : (nI (x % 10)).toNatClampNeg = x % 10 := x_cl (by omega)
            simp only [if_pos hN, if_neg b_10, i6, i7, x_gd, (w4 (x % 10) (by omega)).1, (w8 (x % 10) (by omega)).1, w7 (x % 10) (by omega), m_onesL (show 100 ≤ n by omega), x_bp]
            by_cases k1 : x / 10 = 1
            · rw [if_pos (by omega), if_pos k1]
            by_cases k2 : x / 10 = 2
            · rw [if_neg (by omega), if_pos (by omega), if_neg k1, if_pos k2]
            by_cases k3 : x / 10 = 3
            · rw [if_neg (by omega), if_neg (by omega), if_pos (by omega), if_neg k1, if_neg k2, if_pos k3]
            rw [if_neg (by omega), if_neg (by omega), if_neg (by omega), if_neg k1, if_neg k2, if_neg k3]
          · simp only [if_neg hN, if_true]
            split
            · rfl
            · split
              · rfl
              · split <;> rfl
        rw [mJ, neg, c_entriesAt kc (by omega) v4]
        by_cases hN : x % 10 < N 0
        · rw [if_pos hN, if_pos hN]
          by_cases k1 : x / 10 = 1
          · exact ⟨_, by rw [if_pos k1], by rw [if_pos k1]⟩
          by_cases k2 : x / 10 = 2
          · exact ⟨_, by rw [if_neg k1, if_pos k2], by rw [if_neg k1, if_pos k2]⟩
          by_cases k3 : x / 10 = 3
          · exact ⟨_, by rw [if_neg k1, if_neg k2, if_pos k3], by rw [if_neg k1, if_neg k2, if_pos k3]⟩
          exact ⟨-2, by rw [if_neg k1, if_neg k2, if_neg k3, if_pos rfl], by rw [if_neg k1, if_neg k2, if_neg k3]⟩
        · exact ⟨-2, by rw [if_neg hN], by rw [if_neg hN]⟩
      · -- measured
        have k1 : ¬ x / 10 = 1 := by omega
        have k2 : ¬ x / 10 = 2 := by omega
        have k3 : ¬ x / 10 = 3 := by omega
        have d1 : nI (x / 10) - (10 : Int32) = nI (x / 10 - 10) := by rw [i10, pk_sub (by omega)]
        have d2 : (nI x - (100 : Int32)) / (10 : Int32) = nI (x / 10 - 10) := by
          rw [l_100, pk_sub (by omega), i10, pk_div (by omega) (by omega) (by omega)]
          congr 1; omega
        have nl : ¬ nI x < (100 : Int32) := by rw [l_100]; exact nI_nlt (by omega) hx
        have ml : f11_ofState K2 n m (nI x) h2 = if x / 10 - 10 < N 0 then (if x % 10 < N 0 then gd (inb ((6 : Int32) * nI (x / 10 - 10) + nI (x % 10)) 36) <| some (h2.1 (m + 13) ((6 : Int32) * nI (x / 10 - 10) + nI (x % 10)).toNatClampNeg) else some (-2)) else some (-2) := by
          unfold f11_ofState
          rw [if_neg nl, x_lt, x_lt, d2, r1, m_isN nn ok (by omega), m_isN nn ok (by omega), x_bp]
          by_cases h3 : x / 10 - 10 < N 0
          · rw [if_pos h3, if_neg b_10, x_bp, if_pos h3]
            by_cases h4 : x % 10 < N 0
            · rw [if_pos h4, if_neg b_10, if_pos h4]
            · rw [if_neg h4, if_pos rfl, if_neg h4]
          · rw [if_neg h3, if_pos rfl, if_neg h3]
        rw [ml, d1, c_hasN n3 ok (show x / 10 - 10 < 2147483648 by omega), if_neg k1, if_neg k2, if_neg k3]
        by_cases h4 : x % 10 < N 0
        · by_cases h3 : x / 10 - 10 < N 0
          · have e4 : nI (x / 10 - 10) * (6 : Int32) + nI (x % 10) = nI (6 * (x / 10 - 10) + x % 10) := by rw [l_6, pk_mul, nI_add, Nat.mul_comm]
            have e5 : (6 : Int32) * nI (x / 10 - 10) + nI (x % 10) = nI (6 * (x / 10 - 10) + x % 10) := by rw [l_6, pk_mul, nI_add]
            have e6 : inb (nI (6 * (x / 10 - 10) + x % 10)) 36 = true := x_in (by omega) (by omega)
            have e7 : (nI (6 * (x / 10 - 10) + x % 10)).toNatClampNeg = 6 * (x / 10 - 10) + x % 10 := x_cl (by omega)
            refine ⟨s_M st (6 * (x / 10 - 10) + x % 10), ?_, ?_⟩
            · rw [if_pos h4, if_pos h3, if_neg b_10, e4, e6, x_gd, e7, v6 _ (by omega)]
            · rw [if_pos h3, if_pos h4, e5, e6, x_gd, e7, w6 _ (by omega)]
          · exact ⟨-2, by rw [if_pos h4, if_neg h3, if_pos rfl], by rw [if_neg h3]⟩
        · refine ⟨-2, by rw [if_neg h4], ?_⟩
          by_cases h3 : x / 10 - 10 < N 0
          · rw [if_pos h3, if_neg h4]
          · rw [if_neg h3]
end Look
