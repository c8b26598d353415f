/-! net: both sides alike -/
section NetC
variable {K1 K2 : Ly} {n x o m j : Nat} {h1 h2 : Hp} {N : Nat → Nat} {g : Gh} {a a1 a2 : Int32}
theorem m_inR {y lo hi : Nat} (hy : y < 2147483648) (hl : lo < 2147483648) (hh : hi < 2147483648) : f11_in (nI y) (nI lo) (nI hi) = if lo ≤ y ∧ y ≤ hi then 1 else 0 := by
  unfold f11_in
  simp only [x_lt' hy hl, x_lt' hh hy]
  by_cases h1 : y < lo
  · rw [if_pos h1, if_neg (by omega)]
  · rw [if_neg h1]
    by_cases h2 : hi < y
    · rw [if_pos h2, if_neg (by omega)]
    · rw [if_neg h2, if_pos (by omega)]
theorem m_inM {lo hi : Int32} (ha : a < 0) (hl : 0 ≤ lo) : f11_in a lo hi = 0 := by
  unfold f11_in
  rw [if_pos (Int32.lt_of_lt_of_le ha hl)]
/-- the delay between two nodes -/
theorem both_pair (ok : nOk N) (hn : 5000 ≤ n) (v : vN o h1 N) (vm : vMN m h2 N j) {p : Nat} (hp : p < 100) : ∃ w h2', f2_ofPair K1 n o (nI p) h1 = some w ∧ (bp (f11_isNode K2 n m (nI (p / 10)) h2) fun y14 => if y14 = 0 then some ((-2 : Int32), h2) else bp (f11_isNode K2 n m (nI (p % 10)) h2) fun y17 => if y17 = 0 then some ((-2 : Int32), h2) else bp (f11_layLinks K2 n m (-1 : Int32) h2) fun h20 => gd (inb ((6 : Int32) * nI (p / 10) + nI (p % 10)) 36) <| if h20.1 (m + 11) ((6 : Int32) * nI (p / 10) + nI (p % 10)).toNatClampNeg = (-1 : Int32) then some ((-1 : Int32), h20) else gd (inb ((6 : Int32) * nI (p / 10) + nI (p % 10)) 36) <| bp (f11_linkAt K2 n m (h20.1 (m + 11) ((6 : Int32) * nI (p / 10) + nI (p % 10)).toNatClampNeg) (2 : Int32) h20) fun y25 => some (y25, h20)) = some (w, h2') ∧ ChM [11] m h2 h2' := by
  have b0 := ok.1
  have b2 := ok.2.2.1
  have nn : h2.1 m 23 = nI (N 0) := vm.2.2.1
  have r1 : nI p - nI p / (10 : Int32) * (10 : Int32) = nI (p % 10) := by rw [l_10]; exact pk_rem (by omega) (by omega) (by omega)
  have r2 : nI p / (10 : Int32) = nI (p / 10) := by rw [l_10]; exact pk_div (by omega) (by omega) (by omega)
  by_cases h1n : p / 10 < N 0
  · by_cases h2n : p % 10 < N 0
    · have e0 : nI (p / 10) * (6 : Int32) + nI (p % 10) = nI (6 * (p / 10) + p % 10) := by rw [l_6, pk_mul, nI_add, Nat.mul_comm]
      have e1 : (6 : Int32) * nI (p / 10) + nI (p % 10) = nI (6 * (p / 10) + p % 10) := by rw [l_6, pk_mul, nI_add]
      obtain ⟨h2', q1, q2, q3, q4⟩ := mlayLinks (K := K2) (n := n) ok vm (-1) (by omega)
      have ch : ChM [11] m h2 h2' := fun a k hk => by
        refine ⟨q3 a k (fun hh => hk ?_), by rw [q2], by rw [q2]⟩
        rw [hh.1, rm_a (by omega)]; simp
      have vm' : vMN m h2' N j := ⟨vm.1, by rw [ch.f (by simp)]; exact vm.2.1, by rw [ch.f (by simp)]; exact vm.2.2.1, by rw [ch.f (by simp)]; exact vm.2.2.2.1, fun i hi => by rw [ch.a (by omega) (by simp)]; exact vm.2.2.2.2 i hi⟩
      have lk : lkA N (-1) (6 * (p / 10) + p % 10) = lk0 N (6 * (p / 10) + p % 10) := by
        unfold lkA
        cases hq : lk0 N (6 * (p / 10) + p % 10) with
        | none => rfl
        | some l =>
          have := (lk0_lt hq).1
          simp [x_nm1 (show l < 2147483648 by omega)]
      have m4 := q4 (6 * (p / 10) + p % 10) (by omega)
      rw [lk] at m4
      have c4 := v.2.2.2.1 (6 * (p / 10) + p % 10) (by omega)
      have cs : f2_ofPair K1 n o (nI p) h1 = if oI (lk0 N (6 * (p / 10) + p % 10)) = (-1 : Int32) then some (-1) else gd (inb (oI (lk0 N (6 * (p / 10) + p % 10))) 15) <| some (h1.1 (o + 4) (oI (lk0 N (6 * (p / 10) + p % 10))).toNatClampNeg) := by
        unfold f2_ofPair
        rw [x_lt, x_lt, r1, r2, c_hasN v ok (by omega), if_pos h1n, if_neg b_10, c_hasN v ok (by omega), if_pos h2n, if_neg b_10, e0, x_in (show 6 * (p / 10) + p % 10 < 36 by omega) (by omega), x_gd, x_lt, x_cl (show 6 * (p / 10) + p % 10 < 2147483648 by omega), c4]
      rw [cs, m_isN nn ok (by omega), x_bp, if_pos h1n, if_neg b_10, m_isN nn ok (by omega), x_bp, if_pos h2n, if_neg b_10, q1, x_bp, e1, x_in (show 6 * (p / 10) + p % 10 < 36 by omega) (by omega), x_gd, x_gd, x_cl (show 6 * (p / 10) + p % 10 < 2147483648 by omega), m4]
      cases hq : lk0 N (6 * (p / 10) + p % 10) with
      | none => exact ⟨-1, h2', by rw [if_pos oI_none], by rw [if_pos oI_none], ch⟩
      | some l =>
        have hl := (lk0_lt hq).1
        have z : ¬ oI (some l) = (-1 : Int32) := by
          show ¬ nI l = (-1 : Int32)
          rw [x_nm1 (by omega)]; exact fun hh => hh
        have la : f11_linkAt K2 n m (nI l) (2 : Int32) h2' = some (nI (N (13 + 3 * l))) := by
          have := mlinkAt (K := K2) (n := n) vm' (l := l) (w := 2) (by omega)
          rw [show 11 + 3 * l + 2 = 13 + 3 * l by omega] at this
          exact this
        refine ⟨nI (N (13 + 3 * l)), h2', ?_, ?_, ch⟩
        · rw [if_neg z, show oI (some l) = nI l from rfl, x_in (by omega) (by omega), x_gd, x_cl (by omega), (v.2.2.1 l hl).2.2]
        · rw [if_neg z, show oI (some l) = nI l from rfl, la, x_bp]
    · refine ⟨-2, h2, ?_, ?_, ChM.rf⟩
      · unfold f2_ofPair
        rw [x_lt, x_lt, r1, r2, c_hasN v ok (by omega), if_pos h1n, if_neg b_10, c_hasN v ok (by omega), if_neg h2n, if_pos rfl]
      · rw [m_isN nn ok (by omega), x_bp, if_pos h1n, if_neg b_10, m_isN nn ok (by omega), x_bp, if_neg h2n, if_pos rfl]
  · refine ⟨-2, h2, ?_, ?_, ChM.rf⟩
    · unfold f2_ofPair
      rw [x_lt, x_lt, r1, r2, c_hasN v ok (by omega), if_neg h1n, if_pos rfl]
    · rw [m_isN nn ok (by omega), x_bp, if_neg h1n, if_pos rfl]
theorem c_ofRoute (ok : nOk N) (v : vN o h1 N) {p : Nat} (hp : p < 100) : f2_ofRoute K1 n o (nI p) h1 = some (if p % 20 < N 3 ∧ p / 20 < 4 then nI (N (56 + 4 * (p % 20) + p / 20)) else -2) := by
  have b3 := ok.2.2.2.1
  have r1 : nI p - nI p / (20 : Int32) * (20 : Int32) = nI (p % 20) := by rw [l_20]; exact pk_rem (by omega) (by omega) (by omega)
  have r2 : nI p / (20 : Int32) = nI (p / 20) := by rw [l_20]; exact pk_div (by omega) (by omega) (by omega)
  have q : ∀ y : Nat, y < 2147483648 → (nI (p / 20) = nI y) = (p / 20 = y) := fun y hy => x_eq (by omega) hy
  have q0 : (nI (p / 20) = (0 : Int32)) = (p / 20 = 0) := q 0 (by omega)
  have q1 : (nI (p / 20) = (1 : Int32)) = (p / 20 = 1) := q 1 (by omega)
  have q2 : (nI (p / 20) = (2 : Int32)) = (p / 20 = 2) := q 2 (by omega)
  have q3 : (nI (p / 20) = (3 : Int32)) = (p / 20 = 3) := q 3 (by omega)
  unfold f2_ofRoute
  rw [x_lt, r1, r2, v.1 3 (by omega)]
  simp only [q0, q1, q2, q3, x_lt' (show p % 20 < 2147483648 by omega) (show N 3 < 2147483648 by omega)]
  by_cases h3 : p % 20 < N 3
  · obtain ⟨w1, w2, w3, w4⟩ := v.2.2.2.2.1 (p % 20) h3
    rw [if_pos h3, x_in (show p % 20 < 12 by omega) (by omega), x_gd, x_gd, x_gd, x_gd, x_cl (by omega), w1, w2, w3, w4]
    rcases (show p / 20 = 0 ∨ p / 20 = 1 ∨ p / 20 = 2 ∨ p / 20 = 3 ∨ 4 ≤ p / 20 by omega) with e | e | e | e | e
    · rw [if_pos e, if_pos ⟨h3, by omega⟩, e, Nat.add_zero]
    · rw [if_neg (by omega), if_pos e, if_pos ⟨h3, by omega⟩, e, show 56 + 4 * (p % 20) + 1 = 57 + 4 * (p % 20) by omega]
    · rw [if_neg (by omega), if_neg (by omega), if_pos e, if_pos ⟨h3, by omega⟩, e, show 56 + 4 * (p % 20) + 2 = 58 + 4 * (p % 20) by omega]
    · rw [if_neg (by omega), if_neg (by omega), if_neg (by omega), if_pos e, if_pos ⟨h3, by omega⟩, e, show 56 + 4 * (p % 20) + 3 = 59 + 4 * (p % 20) by omega]
    · rw [if_neg (by omega), if_neg (by omega), if_neg (by omega), if_neg (by omega), if_neg (fun hh => by omega)]
  · rw [if_neg h3, if_neg (fun hh => h3 hh.1)]
theorem c_ofServe (ok : nOk N) (v : vN o h1 N) {p : Nat} (hp : p < 2147483648) : f2_ofServe K1 n o (nI p) h1 = some (if p % 20 < N 4 ∧ p / 20 < 3 then nI (N (104 + 3 * (p % 20) + p / 20)) else -2) := by
  have b4 := ok.2.2.2.2.1
  have r1 : nI p - nI p / (20 : Int32) * (20 : Int32) = nI (p % 20) := by rw [l_20]; exact pk_rem (by omega) (by omega) (by omega)
  have r2 : nI p / (20 : Int32) = nI (p / 20) := by rw [l_20]; exact pk_div (by omega) (by omega) (by omega)
  have q : ∀ y : Nat, y < 2147483648 → (nI (p / 20) = nI y) = (p / 20 = y) := fun y hy => x_eq (by omega) hy
  have q0 : (nI (p / 20) = (0 : Int32)) = (p / 20 = 0) := q 0 (by omega)
  have q1 : (nI (p / 20) = (1 : Int32)) = (p / 20 = 1) := q 1 (by omega)
  have q2 : (nI (p / 20) = (2 : Int32)) = (p / 20 = 2) := q 2 (by omega)
  unfold f2_ofServe
  rw [x_lt, r1, r2, v.1 4 (by omega)]
  simp only [q0, q1, q2, x_lt' (show p % 20 < 2147483648 by omega) (show N 4 < 2147483648 by omega)]
  by_cases h3 : p % 20 < N 4
  · obtain ⟨w1, w2, w3⟩ := v.2.2.2.2.2 (p % 20) h3
    rw [if_pos h3, x_in (show p % 20 < 6 by omega) (by omega), x_gd, x_gd, x_gd, x_cl (by omega), w1, w2, w3]
    rcases (show p / 20 = 0 ∨ p / 20 = 1 ∨ p / 20 = 2 ∨ 3 ≤ p / 20 by omega) with e | e | e | e
    · rw [if_pos e, if_pos ⟨h3, by omega⟩, e, Nat.add_zero]
    · rw [if_neg (by omega), if_pos e, if_pos ⟨h3, by omega⟩, e, show 104 + 3 * (p % 20) + 1 = 105 + 3 * (p % 20) by omega]
    · rw [if_neg (by omega), if_neg (by omega), if_pos e, if_pos ⟨h3, by omega⟩, e, show 104 + 3 * (p % 20) + 2 = 106 + 3 * (p % 20) by omega]
    · rw [if_neg (by omega), if_neg (by omega), if_neg (by omega), if_neg (fun hh => by omega)]
  · rw [if_neg h3, if_neg (fun hh => h3 hh.1)]
theorem m_ofPlace (ok : nOk N) (vm : vMN m h2 N j) {y : Nat} (hy : (200 ≤ y ∧ y ≤ 279) ∨ (300 ≤ y ∧ y ≤ 359)) : f11_net_J184 K2 n m (nI y) h2 = some ((if y < 300 then (if (y - 200) % 20 < N 3 then nI (N (56 + 4 * ((y - 200) % 20) + (y - 200) / 20)) else -2) else (if (y - 300) % 20 < N 4 then nI (N (104 + 3 * ((y - 300) % 20) + (y - 300) / 20)) else -2)), h2) := by
  have b3 := ok.2.2.2.1
  have b4 := ok.2.2.2.2.1
  have r1 : nI y - nI y / (20 : Int32) * (20 : Int32) = nI (y % 20) := by rw [l_20]; exact pk_rem (by omega) (by omega) (by omega)
  have q3 : ((300 : Int32) ≤ nI y) = (300 ≤ y) := x_le (aa := 300) (by omega) (by omega)
  unfold f11_net_J184 f11_ofPlace
  rw [r1]
  simp only [q3]
  rcases hy with hy | hy
  · have r2 : (nI y - (200 : Int32)) / (20 : Int32) = nI ((y - 200) / 20) := by
      rw [show (200 : Int32) = nI 200 from rfl, pk_sub hy.1, l_20]; exact pk_div (by omega) (by omega) (by omega)
    rw [if_neg (show ¬ 300 ≤ y by omega), if_pos (show y < 300 by omega), mroutes vm, x_bp, r2, show (y - 200) % 20 = y % 20 by omega]
    simp only [x_le (show N 3 < 2147483648 by omega) (show y % 20 < 2147483648 by omega)]
    by_cases hc : y % 20 < N 3
    · rw [if_neg (show ¬ N 3 ≤ y % 20 by omega), mrouteAt vm (by omega), x_bp, x_bp, if_pos hc]
    · rw [if_pos (show N 3 ≤ y % 20 by omega), x_bp, if_neg hc]
  · have r2 : (nI y - (300 : Int32)) / (20 : Int32) = nI ((y - 300) / 20) := by
      rw [show (300 : Int32) = nI 300 from rfl, pk_sub hy.1, l_20]; exact pk_div (by omega) (by omega) (by omega)
    rw [if_pos (show 300 ≤ y by omega), if_neg (show ¬ y < 300 by omega), mserves vm, x_bp, r2, show (y - 300) % 20 = y % 20 by omega]
    simp only [x_le (show N 4 < 2147483648 by omega) (show y % 20 < 2147483648 by omega)]
    by_cases hc : y % 20 < N 4
    · rw [if_neg (show ¬ N 4 ≤ y % 20 by omega), mserveAt vm (by omega), x_bp, x_bp, if_pos hc]
    · rw [if_pos (show N 4 ≤ y % 20 by omega), x_bp, if_neg hc]
theorem both_net (kx : KX K1 x) (hn : 5000 ≤ n) (v : XX x h1 m h2) : CP x m h1 (f0_net K1 n x a1 a2 h1) (f11_net K2 n m a1 a2 h2) := by
  obtain ⟨g, vg⟩ := v.2.2.1
  have tr := v.1 0 (by omega)
  have c0 := vg.1.2.1 0 (by omega)
  by_cases hi : isI a1 (g_c g 0)
  · obtain ⟨i, li, rfl⟩ := isI_of (by omega) hi
    have ok := vg.1.2.2.1 i li
    have b0 := ok.1
    obtain ⟨g2, e1, vmn, ch1, xz⟩ := one_yes (K2 := K2) (n := n) v vg li
    have nn : g2.1 m 23 = nI (g_N g i 0) := vmn.2.2.1
    have cf := fun (b : Option Int32) (F : Nat → Option Int32) => c_one (n := n) (b := b) (F := F) kx tr vg li
    obtain ⟨-, ko, vn⟩ := cf none (fun _ => none)
    have mb : ∀ (a : Int32), f11_net K2 n m (nI i) a h2 = _ := fun a => by
      unfold f11_net
      rw [x_lt, e1, x_bd, if_neg b_10]
    have cb : ∀ (a : Int32), f0_net K1 n x (nI i) a h1 = _ := fun a => by
      unfold f0_net
      exact (cf _ _).1
    rw [mb, cb]
    clear mb cb
    by_cases hneg : a2 < 0
    · have t : ∀ {q : Int32}, 0 ≤ q → a2 < q := fun h => Int32.lt_of_lt_of_le hneg h
      have ne : ∀ {q : Int32}, 0 ≤ q → ¬ a2 = q := fun h hh => by
        have := t h
        rw [hh] at this
        exact Int32.lt_irrefl this
      refine ⟨-2, g2, ?_, ?_, xz⟩
      · rw [if_neg (ne (by decide)), if_neg (ne (by decide)), if_neg (ne (by decide)), if_neg (ne (by decide)), if_neg (ne (by decide)), if_pos (t (by decide)), if_pos (t (by decide)), if_pos (t (by decide)), if_pos (t (by decide))]
      · rw [m_inM hneg (by decide), m_inM hneg (by decide), m_inM hneg (by decide), m_inM hneg (by decide), m_inM hneg (by decide), if_pos rfl, if_pos rfl, if_pos rfl, if_pos rfl, if_pos rfl]
    · obtain ⟨y, hy, rfl⟩ := nI_of hneg
      have q : ∀ z : Nat, z < 2147483648 → (nI y = nI z) = (y = z) := fun z hz => x_eq hy hz
      have q0 : (nI y = (0 : Int32)) = (y = 0) := q 0 (by omega)
      have q1 : (nI y = (1 : Int32)) = (y = 1) := q 1 (by omega)
      have q2 : (nI y = (2 : Int32)) = (y = 2) := q 2 (by omega)
      have q3 : (nI y = (3 : Int32)) = (y = 3) := q 3 (by omega)
      have q4 : (nI y = (4 : Int32)) = (y = 4) := q 4 (by omega)
      have l1 : (nI y < (300 : Int32)) = (y < 300) := x_lt' (ab := 300) hy (by omega)
      have l2 : (nI y < (200 : Int32)) = (y < 200) := x_lt' (ab := 200) hy (by omega)
      have l3 : (nI y < (100 : Int32)) = (y < 100) := x_lt' (ab := 100) hy (by omega)
      have l4 : (nI y < (10 : Int32)) = (y < 10) := x_lt' (ab := 10) hy (by omega)
      have i1 : f11_in (nI y) (0 : Int32) (4 : Int32) = if 0 ≤ y ∧ y ≤ 4 then 1 else 0 := m_inR (lo := 0) (hi := 4) hy (by omega) (by omega)
      have i2 : f11_in (nI y) (10 : Int32) (15 : Int32) = if 10 ≤ y ∧ y ≤ 15 then 1 else 0 := m_inR (lo := 10) (hi := 15) hy (by omega) (by omega)
      have i3 : f11_in (nI y) (100 : Int32) (199 : Int32) = if 100 ≤ y ∧ y ≤ 199 then 1 else 0 := m_inR (lo := 100) (hi := 199) hy (by omega) (by omega)
      have i4 : f11_in (nI y) (200 : Int32) (279 : Int32) = if 200 ≤ y ∧ y ≤ 279 then 1 else 0 := m_inR (lo := 200) (hi := 279) hy (by omega) (by omega)
      have i5 : f11_in (nI y) (300 : Int32) (359 : Int32) = if 300 ≤ y ∧ y ≤ 359 then 1 else 0 := m_inR (lo := 300) (hi := 359) hy (by omega) (by omega)
      rw [i1, i2, i3, i4, i5]
      simp only [q0, q1, q2, q3, q4, l1, l2, l3, l4]
      by_cases r1 : y < 5
      · rw [if_pos (show 0 ≤ y ∧ y ≤ 4 by omega), if_neg b_10, mofNet vmn (show y < 122 by omega), x_bp]
        refine ⟨_, g2, ?_, rfl, xz⟩
        have w := fun k hk => vn.1 k hk
        rcases (show y = 0 ∨ y = 1 ∨ y = 2 ∨ y = 3 ∨ y = 4 by omega) with rfl | rfl | rfl | rfl | rfl
        · rw [if_pos rfl, w 0 (by omega)]
        · rw [if_neg (by omega), if_pos rfl, w 1 (by omega)]
        · rw [if_neg (by omega), if_neg (by omega), if_pos rfl, w 2 (by omega)]
        · rw [if_neg (by omega), if_neg (by omega), if_neg (by omega), if_pos rfl, w 3 (by omega)]
        · rw [if_neg (by omega), if_neg (by omega), if_neg (by omega), if_neg (by omega), if_pos rfl, w 4 (by omega)]
      rw [if_neg (show ¬ (0 ≤ y ∧ y ≤ 4) by omega), if_pos (rfl : (0 : Int32) = 0), if_neg (show ¬ y = 0 by omega), if_neg (show ¬ y = 1 by omega), if_neg (show ¬ y = 2 by omega), if_neg (show ¬ y = 3 by omega), if_neg (show ¬ y = 4 by omega)]
      by_cases r2 : y < 100
      · rw [if_neg (show ¬ (100 ≤ y ∧ y ≤ 199) by omega), if_neg (show ¬ (200 ≤ y ∧ y ≤ 279) by omega), if_neg (show ¬ (300 ≤ y ∧ y ≤ 359) by omega), if_pos (rfl : (0 : Int32) = 0), if_pos (rfl : (0 : Int32) = 0), if_pos (rfl : (0 : Int32) = 0), if_pos (show y < 300 by omega), if_pos (show y < 200 by omega), if_pos r2]
        by_cases r3 : y < 10
        · rw [if_pos r3, if_neg (show ¬ (10 ≤ y ∧ y ≤ 15) by omega), if_pos rfl]
          exact ⟨-2, g2, rfl, rfl, xz⟩
        rw [if_neg r3]
        have s1 : nI y - (10 : Int32) = nI (y - 10) := by rw [l_10]; exact pk_sub (by omega)
        have s2 : (5 : Int32) + nI y - (10 : Int32) = nI (y - 5) := by
          rw [l_5, nI_add, l_10, pk_sub (by omega), show 5 + y - 10 = y - 5 by omega]
        rw [s1, s2, vn.1 0 (by omega)]
        simp only [x_le (show g_N g i 0 < 2147483648 by omega) (show y - 10 < 2147483648 by omega)]
        by_cases r4 : y ≤ 15
        · rw [if_pos (show 10 ≤ y ∧ y ≤ 15 by omega), if_neg b_10, m_isN nn ok (by omega), x_bp]
          by_cases r5 : y - 10 < g_N g i 0
          · rw [if_neg (show ¬ g_N g i 0 ≤ y - 10 by omega), if_pos r5, if_neg b_10, mofNet vmn (show y - 5 < 122 by omega), x_bp, x_in (show y - 10 < 6 by omega) (by omega), x_gd, x_cl (by omega), vn.2.1 (y - 10) (by omega), show 5 + (y - 10) = y - 5 by omega]
            exact ⟨_, g2, rfl, rfl, xz⟩
          · rw [if_pos (show g_N g i 0 ≤ y - 10 by omega), if_neg r5, if_pos rfl]
            exact ⟨-2, g2, rfl, rfl, xz⟩
        · rw [if_neg (show ¬ (10 ≤ y ∧ y ≤ 15) by omega), if_pos (rfl : (0 : Int32) = 0), if_pos (show g_N g i 0 ≤ y - 10 by omega)]
          exact ⟨-2, g2, rfl, rfl, xz⟩
      rw [if_neg (show ¬ (10 ≤ y ∧ y ≤ 15) by omega), if_pos (rfl : (0 : Int32) = 0), if_neg r2]
      by_cases r3 : y < 200
      · have s1 : nI y - (100 : Int32) = nI (y - 100) := by rw [l_100]; exact pk_sub (by omega)
        have s2 : nI (y - 100) / (10 : Int32) = nI ((y - 100) / 10) := by rw [l_10]; exact pk_div (by omega) (by omega) (by omega)
        have s3 : nI y - nI y / (10 : Int32) * (10 : Int32) = nI ((y - 100) % 10) := by
          rw [l_10, show (y - 100) % 10 = y % 10 by omega]; exact pk_rem (by omega) (by omega) (by omega)
        obtain ⟨w, h2', p1, p2, p3⟩ := both_pair (K1 := K1) (K2 := K2) ok hn vn vmn (show y - 100 < 100 by omega)
        refine ⟨w, h2', ?_, ?_, xz.zz p3 (by decide)⟩
        · rw [if_pos (show y < 300 by omega), if_pos r3, s1, p1, x_bp]
        · rw [if_pos (show 100 ≤ y ∧ y ≤ 199 by omega), if_neg b_10, x_lt, x_lt, s1, s2, s3]
          exact p2
      rw [if_neg (show ¬ (100 ≤ y ∧ y ≤ 199) by omega), if_pos (rfl : (0 : Int32) = 0)]
      by_cases r4 : y < 300
      · have s1 : nI y - (200 : Int32) = nI (y - 200) := by rw [show (200 : Int32) = nI 200 from rfl]; exact pk_sub (by omega)
        rw [if_pos r4, if_neg r3, s1, c_ofRoute ok vn (by omega), x_bp]
        refine ⟨_, g2, rfl, ?_, xz⟩
        by_cases r5 : y ≤ 279
        · rw [if_pos (show 200 ≤ y ∧ y ≤ 279 by omega), if_neg b_10, m_ofPlace ok vmn (Or.inl ⟨by omega, r5⟩), if_pos r4]
          by_cases hc : (y - 200) % 20 < g_N g i 3
          · rw [if_pos hc, if_pos ⟨hc, by omega⟩]
          · rw [if_neg hc, if_neg (fun hh => hc hh.1)]
        · rw [if_neg (show ¬ (200 ≤ y ∧ y ≤ 279) by omega), if_pos (rfl : (0 : Int32) = 0), if_neg (show ¬ (300 ≤ y ∧ y ≤ 359) by omega), if_pos rfl, if_neg (fun hh => by omega)]
      · have s1 : nI y - (300 : Int32) = nI (y - 300) := by rw [show (300 : Int32) = nI 300 from rfl]; exact pk_sub (by omega)
        rw [if_neg r4, s1, c_ofServe ok vn (by omega), x_bp]
        refine ⟨_, g2, rfl, ?_, xz⟩
        rw [if_neg (show ¬ (200 ≤ y ∧ y ≤ 279) by omega), if_pos (rfl : (0 : Int32) = 0)]
        by_cases r5 : y ≤ 359
        · rw [if_pos (show 300 ≤ y ∧ y ≤ 359 by omega), if_neg b_10, m_ofPlace ok vmn (Or.inr ⟨by omega, r5⟩), if_neg r4]
          by_cases hc : (y - 300) % 20 < g_N g i 4
          · rw [if_pos hc, if_pos ⟨hc, by omega⟩]
          · rw [if_neg hc, if_neg (fun hh => hc hh.1)]
        · rw [if_neg (show ¬ (300 ≤ y ∧ y ≤ 359) by omega), if_pos rfl, if_neg (fun hh => by omega)]
  · obtain ⟨k1, e1, xz⟩ := one_no (K2 := K2) (n := n) v vg hi
    refine ⟨-2, k1, ?_, ?_, xz⟩
    · unfold f0_net
      exact c_oneNo vg hi
    · unfold f11_net
      rw [x_lt, e1, x_bd, if_pos rfl]
end NetC
