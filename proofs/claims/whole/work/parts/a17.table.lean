/-! table and ways, on both sides -/
section Table
variable {K1 K2 : Ly} {n x m : Nat} {h1 h2 : Hp} {g : Gh} {a a1 a2 a3 a4 : Int32}
theorem XX.zz {R : List Nat} {g2 : Hp} (v : XX x h1 m h2) (q : ChM R m h2 g2) (hd : dj [1, 2, 3, 4, 5, 6, 7, 8, 52] R = true) : XX x h1 m g2 := v.kp (fun _ _ _ => ⟨rfl, rfl⟩) v.2.1 q hd
theorem one_yes {i : Nat} (v : XX x h1 m h2) (vg : XG x h1 m h2 g) (hi : i < g_c g 0) : ∃ g2, f11_hasNet K2 n m (nI i) (sI h2 m 0 0) = some (1, g2) ∧ vMN m g2 (g_N g i) i ∧ ChM RL m h2 g2 ∧ XX x h1 m g2 := by
  have ch0 : ChM RL m h2 (sI h2 m 0 0) := ChM.F (by simp [RL]) ChM.rf
  obtain ⟨g2, e1, vmn, ch1⟩ := m_hasNet (K2 := K2) (n := n) (vg.2.2.kp ch0 (by decide)) vg.1 hi
  exact ⟨g2, e1, vmn, ch0.tr (RN.up ch1), v.z (ch0.tr (RN.up ch1))⟩
theorem one_no (v : XX x h1 m h2) (vg : XG x h1 m h2 g) (hi : ¬ isI a (g_c g 0)) : ∃ g2, f11_hasNet K2 n m a (sI h2 m 0 0) = some (0, g2) ∧ XX x h1 m g2 := by
  have ch0 : ChM RL m h2 (sI h2 m 0 0) := ChM.F (by simp [RL]) ChM.rf
  obtain ⟨g2, e1, ch1⟩ := m_netNo (K2 := K2) (n := n) (vg.2.2.kp ch0 (by decide)) vg.1 hi
  exact ⟨g2, e1, v.z (ch0.tr (RN.up ch1))⟩
theorem both_table (kx : KX K1 x) (hn : 5000 ≤ n) (v : XX x h1 m h2) : CP x m h1 (f0_table K1 n x a1 a2 a3 h1) (f11_table K2 n m a1 a2 a3 h2) := by
  obtain ⟨g, vg⟩ := v.2.2.1
  have tr := v.1 0 (by omega)
  have c0 := vg.1.2.1 0 (by omega)
  by_cases hi : isI a1 (g_c g 0)
  · obtain ⟨i, li, rfl⟩ := isI_of (by omega) hi
    have ok := vg.1.2.2.1 i li
    have b0 := ok.1
    obtain ⟨g2, e1, vmn, ch1, xz⟩ := one_yes (K2 := K2) (n := n) v vg li
    have nn : g2.1 m 23 = nI (g_N g i 0) := vmn.2.2.1
    have cf := fun (b : Option Int32) (F : Nat → Option Int32) => c_one (n := n) (b := b) (F := F) kx tr vg li
    obtain ⟨-, ko, vn⟩ := cf none (fun _ => none)
    by_cases h2n : isI a2 (g_N g i 0)
    · obtain ⟨d, ld, rfl⟩ := isI_of (by omega) h2n
      have cs : f0_table K1 n x (nI i) (nI d) a3 h1 = if a3 = 0 then (bp (f2_rowsAt K1 n (x + 5 + 13 * i) (nI d) h1) fun y7 => some y7) else if a3 = (1 : Int32) then (bp (f2_routesAt K1 n (x + 5 + 13 * i) (nI d) h1) fun y10 => some y10) else some (-1) := by
        unfold f0_table
        refine (cf _ _).1.trans ?_
        rw [c_hasN vn ok (by omega), if_pos ld, if_neg b_10]
      have ms : f11_table K2 n m (nI i) (nI d) a3 h2 = if f11_in a3 0 1 = 0 then some (-1, g2) else if a3 = 0 then (bd (f11_rowsAt K2 n m (nI d) g2) fun y13 h12 => some (y13, h12)) else f11_table_L48 K2 n m (nI d) g2 n 0 0 := by
        unfold f11_table
        rw [x_lt, e1, x_bd, if_neg b_10, m_isN nn ok (by omega), x_bp, if_pos ld, if_neg b_10]
      rw [cs, ms]
      by_cases h3 : isI a3 2
      · obtain ⟨q1, q2⟩ := isI_2 h3
        rw [q2, if_neg b_10]
        rcases q1 with rfl | rfl
        · obtain ⟨w, h2', r1, r2, r3⟩ := both_rowsAt (K1 := K1) (K2 := K2) ok hn vn vmn (show d < 6 by omega)
          exact ⟨w, h2', by rw [if_pos rfl, r1, x_bp], by rw [if_pos rfl, r2, x_bd], xz.zz r3 (by decide)⟩
        · obtain ⟨w, r1, r2⟩ := both_routesAt (K1 := K1) (K2 := K2) ok hn vn vmn (nI d)
          exact ⟨w, g2, by rw [if_neg b_10, if_pos rfl, r1, x_bp], by rw [if_neg b_10, r2], xz⟩
      · obtain ⟨⟨q1, q2⟩, q3⟩ := isI_2n h3
        exact ⟨-1, g2, by rw [if_neg q1, if_neg q2], by rw [q3, if_pos rfl], xz⟩
    · refine ⟨-1, g2, ?_, ?_, xz⟩
      · unfold f0_table
        refine (cf _ _).1.trans ?_
        rw [c_hasI vn ok h2n, if_pos rfl]
      · unfold f11_table
        rw [x_lt, e1, x_bd, if_neg b_10, m_isNo nn ok h2n, x_bp, if_pos rfl]
  · obtain ⟨k1, e1, xz⟩ := one_no (K2 := K2) (n := n) v vg hi
    refine ⟨-1, k1, ?_, ?_, xz⟩
    · unfold f0_table
      exact c_oneNo vg hi
    · unfold f11_table
      rw [x_lt, e1, x_bd, if_pos rfl]
end Table
section Ways
variable {K1 K2 : Ly} {n x o m j : Nat} {h1 h2 : Hp} {N : Nat → Nat} {g : Gh} {a a1 a2 a3 a4 : Int32}
theorem c_linkB {a b : Nat} (ok : nOk N) (v : vN o h1 N) (ha : a < N 0) (hb : b < N 0) : f2_linkBetween K1 n o (nI a) (nI b) h1 = some (oI (lk0 N (6 * a + b))) := by
  have b0 := ok.1
  have e0 : nI a * (6 : Int32) + nI b = nI (6 * a + b) := by rw [l_6, pk_mul, nI_add, Nat.mul_comm]
  unfold f2_linkBetween
  rw [c_hasN v ok (by omega), if_pos ha, if_neg b_10, c_hasN v ok (by omega), if_pos hb, if_neg b_10, e0, x_in (by omega) (by omega), x_gd, x_cl (by omega), v.2.2.2.1 _ (by omega)]
theorem oI_lk (ok : nOk N) {i : Nat} : (oI (lk0 N i) = (-1 : Int32)) ↔ ¬ (lk0 N i).isSome = true := by
  have b2 := ok.2.2.1
  cases hq : lk0 N i with
  | none => simp [oI]
  | some l =>
    have := (lk0_lt hq).1
    simp only [oI, x_nm1 (show l < 2147483648 by omega)]
    simp
theorem upL_0 (ok : nOk N) {i : Nat} : upL N (-1) 0 i = lk0 N i := by
  have b2 := ok.2.2.1
  unfold upL lkA
  cases hq : lk0 N i with
  | none => rfl
  | some l =>
    have := (lk0_lt hq).1
    simp [x_nm1 (show l < 2147483648 by omega), bI_0]
theorem both_waysFor (ok : nOk N) (hn : 5000 ≤ n) (v : vN o h1 N) (vm : mN m h2 j N (-1)) (hd : h2.1 m 26 = 0) {nd nm : Nat} (hnd : nd < N 0) (hm : nm < 531441) : ∃ w, f2_waysFor K1 n o (nI nd) (nI (rt N nd nm)) h1 = some w ∧ f11_ways_L57 K2 n m (nI nd) (nI nm) (nI (ltr (rt N nd nm))) h2 n 0 0 = some (w, h2) := by
  have b3 := ok.2.2.2.1
  have b0 := ok.1
  have e3 : h1.1 o 3 = nI (N 3) := v.1 3 (by omega)
  have rl := rt_lt (N := N) (nd := nd) hm
  have ll := ltr_le (rt N nd nm)
  have go : ∀ (d k fu fu' : Nat) (s : Int32), k + d = N 3 → d < fu → d < fu' → ∃ w, f2_waysFor_L5 K1 n o (nI nd) (nI (rt N nd nm)) h1 fu s (nI k) = some w ∧ f11_ways_L57 K2 n m (nI nd) (nI nm) (nI (ltr (rt N nd nm))) h2 fu' s (nI k) = some (w, h2) := by
    intro d
    induction d with
    | zero =>
      intro k fu fu' s hk hf hf'
      obtain ⟨fu, rfl⟩ : ∃ g, fu = g + 1 := ⟨fu - 1, by omega⟩
      obtain ⟨fu', rfl⟩ : ∃ g, fu' = g + 1 := ⟨fu' - 1, by omega⟩
      have e1 : nI (N 3) ≤ nI k := nI_le (by omega) (by omega)
      exact ⟨s, by rw [f2_waysFor_L5, e3, if_pos e1], by rw [f11_ways_L57, mroutes vm.1, x_bp, if_pos e1]⟩
    | succ d ih =>
      intro k fu fu' s hk hf hf'
      obtain ⟨fu, rfl⟩ : ∃ g, fu = g + 1 := ⟨fu - 1, by omega⟩
      obtain ⟨fu', rfl⟩ : ∃ g, fu' = g + 1 := ⟨fu' - 1, by omega⟩
      have e1 : ¬ nI (N 3) ≤ nI k := nI_ge (by omega) (by omega)
      obtain ⟨e2, e2', e2'', -⟩ := v.2.2.2.2.1 k (by omega)
      obtain ⟨q1, ⟨q2, q3⟩, ⟨q4, q5⟩, -⟩ := ok.2.2.2.2.2.2.2.2.1 k (by omega)
      have r2 : f11_routeAt K2 n m (nI k) (2 : Int32) h2 = some (nI (N (58 + 4 * k))) := by
        have := mrouteAt (K := K2) (n := n) vm.1 (k := k) (w := 2) (by omega)
        rw [show 56 + 4 * k + 2 = 58 + 4 * k by omega] at this
        exact this
      have mi := misRoute (K := K2) (n := n) ok vm.1 (nd := nd) hm (by omega) (show k < N 3 by omega) (by omega)
      have mu := misUp (K := K2) (n := n) (m := m) ok vm.2 hd (a := nd) (b := N (58 + 4 * k)) (by omega)
      rw [upL_0 ok] at mu
      have cl := c_linkB (K1 := K1) (n := n) ok v hnd q4
      -- the class's step
      have cs : f2_waysFor_L5 K1 n o (nI nd) (nI (rt N nd nm)) h1 (fu + 1) s (nI k) = f2_waysFor_L5 K1 n o (nI nd) (nI (rt N nd nm)) h1 fu (if mR N nd (rt N nd nm) k = true ∧ (lk0 N (6 * nd + N (58 + 4 * k))).isSome = true then s ||| pI (N (58 + 4 * k)) else s) (nI (k + 1)) := by
        rw [f2_waysFor_L5, e3, if_neg e1, x_in (show k < 12 by omega) (by omega), x_gd, x_gd, x_cl (by omega), e2, e2', f2_waysFor_J40]
        simp only [f2_waysFor_J41, x_in (show k < 12 by omega) (show 12 < 2147483648 by omega), x_gd, x_cl (show k < 2147483648 by omega), e2'', cl, x_bp, x_lt, nI_1, x_pI, x_eq (show N (56 + 4 * k) < 2147483648 by omega) (show nd < 2147483648 by omega), x_eq (show N (57 + 4 * k) < 2147483648 by omega) (show rt N nd nm < 2147483648 by omega), oI_lk ok]
        by_cases c1 : N (56 + 4 * k) = nd
        · by_cases c2 : N (57 + 4 * k) = rt N nd nm
          · have hm : mR N nd (rt N nd nm) k = true := by simp [mR, c1, c2]
            rw [if_pos c1, if_pos c2, if_neg b_10]
            by_cases c3 : (lk0 N (6 * nd + N (58 + 4 * k))).isSome = true
            · rw [if_neg (fun hh => hh c3), if_pos ⟨hm, c3⟩]
            · rw [if_pos c3, if_neg (fun hh => c3 hh.2)]
          · have hm : ¬ mR N nd (rt N nd nm) k = true := by simp [mR, c2]
            rw [if_pos c1, if_neg c2, if_pos rfl, if_neg (fun hh => hm hh.1)]
        · have hm : ¬ mR N nd (rt N nd nm) k = true := by simp [mR, c1]
          rw [if_neg c1, if_pos trivial, if_neg (fun hh => hm hh.1)]
      have ms : f11_ways_L57 K2 n m (nI nd) (nI nm) (nI (ltr (rt N nd nm))) h2 (fu' + 1) s (nI k) = f11_ways_L57 K2 n m (nI nd) (nI nm) (nI (ltr (rt N nd nm))) h2 fu' (if mR N nd (rt N nd nm) k = true ∧ (lk0 N (6 * nd + N (58 + 4 * k))).isSome = true then s ||| pI (N (58 + 4 * k)) else s) (nI (k + 1)) := by
        rw [f11_ways_L57, mroutes vm.1, x_bp, if_neg e1, mi, x_bp, r2, x_bp, mu, x_bp]
        simp only [f11_ways_J103, f11_ways_J104, f11_ways_J126, r2, x_bp, x_lt, nI_1, x_pI]
        have s0 : s ||| (0 : Int32) = s := bI_ext (fun k hk => by rw [bI_or, bI_0, Bool.or_false])
        rw [if_pos trivial, s0]
        by_cases hm : mR N nd (rt N nd nm) k = true
        · have hp : ¬ nI (ltr (rt N nd nm)) ≤ 0 := by
            have h0 : 0 < rt N nd nm := by
              simp only [mR, Bool.and_eq_true, beq_iff_eq] at hm
              omega
            have := ltr_p h0
            exact nI_nle (by omega) (by omega)
          rw [if_neg hp, if_pos hm, if_neg b_10]
          by_cases c3 : (lk0 N (6 * nd + N (58 + 4 * k))).isSome = true
          · rw [if_pos c3, if_neg b_10, if_neg b_10, if_pos ⟨hm, c3⟩]
          · rw [if_neg c3, if_pos rfl, if_pos rfl, if_neg (fun hh => c3 hh.2)]
        · rw [if_neg hm, if_pos rfl, ite_self, if_neg (fun hh => hm hh.1)]
      rw [cs, ms]
      exact ih (k + 1) fu fu' _ (by omega) (by omega) (by omega)
  exact go (N 3) 0 n n 0 (by omega) (by omega) (by omega)
theorem both_ways (kx : KX K1 x) (hn : 5000 ≤ n) (v : XX x h1 m h2) : CP x m h1 (f0_ways K1 n x a1 a2 a3 a4 h1) (f11_ways K2 n m a1 a2 a3 a4 h2) := by
  obtain ⟨g, vg⟩ := v.2.2.1
  have tr := v.1 0 (by omega)
  have c0 := vg.1.2.1 0 (by omega)
  by_cases hi : isI a1 (g_c g 0)
  · obtain ⟨i, li, rfl⟩ := isI_of (by omega) hi
    have ok := vg.1.2.2.1 i li
    have b0 := ok.1
    obtain ⟨g2, e1, vmn, ch1, xz⟩ := one_yes (K2 := K2) (n := n) v vg li
    have nn : g2.1 m 23 = nI (g_N g i 0) := vmn.2.2.1
    have cf := fun (b : Option Int32) (F : Nat → Option Int32) => c_one (n := n) (b := b) (F := F) kx tr vg li
    obtain ⟨-, ko, vn⟩ := cf none (fun _ => none)
    by_cases h2n : isI a2 (g_N g i 0)
    · obtain ⟨d, ld, rfl⟩ := isI_of (by omega) h2n
      rcases both_name (K1 := K1) (K2 := K2) (a := a3) (h1 := h1) (h2 := g2) hn with ⟨w, rfl, w1, w2, w3, w4⟩ | ⟨w3, w4⟩
      · obtain ⟨k2, s1, s2, s3⟩ := mbegin (K := K2) (-1) (fun _ _ => 0) ok hn vmn
        have rr := routed_ok (K := K1) (n := n) ok vn (nd := d) w2 (by omega) (by omega)
        have ml := mlongest (K := K2) (n := n) ok s2.1.1 (nd := d) w2 (by omega) (by omega)
        have rl := rt_lt (N := g_N g i) (nd := d) w2
        have cl := cltr (K := K1) (n := n) (h := h1) rl (by omega)
        have cs : f0_ways K1 n x (nI i) (nI d) (nI w) a4 h1 = if a4 = 0 then (bp (f2_waysFor K1 n (x + 5 + 13 * i) (nI d) (nI (rt (g_N g i) d w)) h1) fun y12 => some y12) else some (nI (ltr (rt (g_N g i) d w))) := by
          unfold f0_ways
          refine (cf _ _).1.trans ?_
          rw [c_hasN vn ok (by omega), if_pos ld, if_neg b_10, w3, x_bp, if_neg b_10, rr, x_bp, cl, x_bp]
        have ms : f11_ways K2 n m (nI i) (nI d) (nI w) a4 h2 = if a4 = 0 then f11_ways_L57 K2 n m (nI d) (nI w) (nI (ltr (rt (g_N g i) d w))) k2 n 0 0 else some (nI (ltr (rt (g_N g i) d w)), k2) := by
          unfold f11_ways
          rw [x_lt, e1, x_bd, if_neg b_10, m_isN nn ok (by omega), x_bp, if_pos ld, if_neg b_10, w4, x_bp, if_neg b_10, s1, x_bp, ml, x_bp]
        have xe : XX x h1 m k2 := xz.zz s3 (by decide)
        rw [cs, ms]
        by_cases h4 : a4 = 0
        · obtain ⟨z, z1, z2⟩ := both_waysFor (K1 := K1) (K2 := K2) ok hn vn s2.1 s2.2.2.1 ld w2
          exact ⟨z, k2, by rw [if_pos h4, z1, x_bp], by rw [if_pos h4, z2], xe⟩
        · exact ⟨_, k2, by rw [if_neg h4], by rw [if_neg h4], xe⟩
      · refine ⟨-1, g2, ?_, ?_, xz⟩
        · unfold f0_ways
          refine (cf _ _).1.trans ?_
          rw [c_hasN vn ok (by omega), if_pos ld, if_neg b_10, w3, x_bp, if_pos rfl]
        · unfold f11_ways
          rw [x_lt, e1, x_bd, if_neg b_10, m_isN nn ok (by omega), x_bp, if_pos ld, if_neg b_10, w4, x_bp, if_pos rfl]
    · refine ⟨-1, g2, ?_, ?_, xz⟩
      · unfold f0_ways
        refine (cf _ _).1.trans ?_
        rw [c_hasI vn ok h2n, if_pos rfl]
      · unfold f11_ways
        rw [x_lt, e1, x_bd, if_neg b_10, m_isNo nn ok h2n, x_bp, if_pos rfl]
  · obtain ⟨k1, e1, xz⟩ := one_no (K2 := K2) (n := n) v vg hi
    refine ⟨-1, k1, ?_, ?_, xz⟩
    · unfold f0_ways
      exact c_oneNo vg hi
    · unfold f11_ways
      rw [x_lt, e1, x_bd, if_pos rfl]
end Ways
