/-! why: both sides alike -/
section Why
variable {K1 K2 : Ly} {n x m : Nat} {h1 h2 : Hp} {g : Gh} {a a1 a2 a3 a4 a5 a6 : Int32}
theorem c_asks {r q k : Nat} {R : Nat → Int32} (v : vR r h1 q R) (hq : q ≤ 40) (hk : k < q) (h : isA R k) : f3_asks K1 n r (nI k) h1 = some 1 := by
  have e1 := (v.2 k hk).1
  have e2 : inb (nI k) 40 = true := x_in (by omega) (by omega)
  have e3 : (nI k).toNatClampNeg = k := x_cl (by omega)
  unfold f3_asks f3_asks_J31
  rw [if_neg (nI_pos (by omega)), v.1, if_neg (nI_ge (by omega) (by omega)), e2, x_gd, x_gd, e3, e1]
  rcases h with h | h
  · rw [if_pos h]
  · rw [h, if_neg b_10, if_pos rfl]
theorem c_asksNo {r q k : Nat} {R : Nat → Int32} (v : vR r h1 q R) (hq : q ≤ 40) (hk : k < q) (h : ¬ isA R k) : f3_asks K1 n r (nI k) h1 = some 0 := by
  have e1 := (v.2 k hk).1
  have e2 : inb (nI k) 40 = true := x_in (by omega) (by omega)
  have e3 : (nI k).toNatClampNeg = k := x_cl (by omega)
  unfold f3_asks f3_asks_J31
  rw [if_neg (nI_pos (by omega)), v.1, if_neg (nI_ge (by omega) (by omega)), e2, x_gd, x_gd, e3, e1, if_neg (fun hh => h (Or.inl hh)), if_neg (fun hh => h (Or.inr hh))]
/-- what the reference keeps of an ask that was made, and of one that was not -/
theorem m_came {c o j kb k : Nat} {N : Nat → Nat} {aw : Int32} {st : St} (hk : k < 60) (V : WW K1 c h1 o m h2 j N aw kb st) : (s_B st k 8 = 1 → ¬ h2.1 (m + 40) k = -1) ∧ (¬ s_B st k 8 = 1 → h2.1 (m + 40) k = -1) := by
  obtain ⟨⟨vc, vm, I⟩, dk⟩ := id V
  obtain ⟨w1, w2, w3, w4, w5, w6, w7, w8, w9, w10⟩ := id vm
  refine ⟨fun hb => ?_, (w9 k hk).2⟩
  obtain ⟨u1, -⟩ := (w9 k hk).1 hb
  obtain ⟨-, -, gg⟩ := I.2.2.2.2.2.2.2.1 k hb
  rw [u1]
  rcases gg with gg | gg | gg | gg
  · rw [gg.1]; decide
  · rw [gg.1]; decide
  · rw [gg.1]; decide
  · rw [gg.1]; decide
theorem both_why (kx : KX K1 x) (hn : 5000 ≤ n) (v : XX x h1 m h2) : CC x m (f0_why K1 n x a1 a2 a3 a4 h1) (f11_why K2 n m a1 a2 a3 a4 h2) := by
  obtain ⟨g, vg⟩ := v.2.2.1
  have tr := v.1 0 (by omega)
  have c0 := vg.1.2.1 0 (by omega)
  have c1 := vg.1.2.1 1 (by omega)
  by_cases hi : isI a1 (g_c g 0) ∧ isI a2 (g_c g 1)
  · obtain ⟨i, li, rfl⟩ := isI_of (by omega) hi.1
    obtain ⟨r, lr, rfl⟩ := isI_of (by omega) hi.2
    have rk := (vg.1.2.2.2.1 r lr).1
    have vr := vg.2.1.2.2.2.2.2.2.1 r lr
    rw [show x + 1 + 31 + 4 * r = x + 32 + 4 * r by omega] at vr
    obtain ⟨y, h1', g2, h2', st, f1, f2, f3, f4, f5, f6, f7, f8, f9, f10, f11, f12, f13⟩ := both_lay (K2 := K2) kx hn v vg li lr (Nat.le_refl _)
    by_cases h3 : isI a3 (g_q g r)
    · obtain ⟨k, lk, rfl⟩ := isI_of (by omega) h3
      have e1 : inb (nI k) 64 = true := x_in (by omega) (by omega)
      have e2 : (nI k).toNatClampNeg = k := x_cl (by omega)
      have e3 : inb (nI k) 60 = true := x_in (by omega) (by omega)
      have nq : ¬ nI (g_q g r) ≤ nI k := nI_ge lk (by omega)
      obtain ⟨b1, b2⟩ := m_came (k := k) (by omega) f6
      have ms : f11_why K2 n m (nI i) (nI r) (nI k) a4 h2 = if h2'.1 (m + 40) k = -1 then some (-2, h2') else bp (f11_ofAsk K2 n m (nI k) a4 h2') fun y17 => some (y17, h2') := by
        unfold f11_why
        rw [x_lt, f2, x_bd, if_neg b_10, f3, x_bp, m_inL (by omega) (by omega), if_pos lk, if_neg b_10, x_bp, f4, x_bd, e1, x_gd, e2]
      rw [ms]
      by_cases hA : isA (g_R g r) k
      · have cs : f0_why K1 n x (nI i) (nI r) (nI k) a4 h1 = if nI k < nI y then some (f9_look (x + 210 + 767 + k) a4 h1', h1') else some (-2, h1') := by
          unfold f0_why
          refine (c_two kx tr vg li lr).trans ?_
          rw [if_neg (nI_pos (by omega)), vr.1, if_neg nq, c_asks vr rk lk hA, x_bp, if_neg b_10, f1, x_bd, e3, x_gd, e2, (f6.1.1.2.2.2.2.2.2.2.2.1 k (by omega)).1, x_ob (kx.1.2.2.2 k (by omega))]
        rw [cs]
        simp only [x_lt' (show k < 2147483648 by omega) (show y < 2147483648 by omega)]
        by_cases hy : k < y
        · have hb : s_B st k 8 = 1 := (f7 k).mpr ⟨hy, hA⟩
          exact ⟨_, h1', h2', by rw [if_pos hy], by rw [if_neg (b1 hb), both_fate (by omega) hb a4 f6, x_bp], f9⟩
        · have hb : ¬ s_B st k 8 = 1 := fun hh => hy ((f7 k).mp hh).1
          exact ⟨-2, h1', h2', by rw [if_neg hy], by rw [if_pos (b2 hb)], f9⟩
      · have hb : ¬ s_B st k 8 = 1 := fun hh => hA ((f7 k).mp hh).2
        refine ⟨-2, h1, h2', ?_, by rw [if_pos (b2 hb)], f13⟩
        unfold f0_why
        refine (c_two kx tr vg li lr).trans ?_
        rw [if_neg (nI_pos (by omega)), vr.1, if_neg nq, c_asksNo vr rk lk hA, x_bp, if_pos rfl]
    · refine ⟨-2, h1, g2, ?_, ?_, f10⟩
      · unfold f0_why
        refine (c_two kx tr vg li lr).trans ?_
        by_cases hneg : a3 < 0
        · rw [if_pos hneg]
        · obtain ⟨y, hy, rfl⟩ := nI_of hneg
          have : ¬ y < g_q g r := fun hh => h3 (isI_nI (by omega) (by omega))
          rw [if_neg hneg, vr.1, if_pos (nI_le (by omega) hy)]
      · unfold f11_why
        rw [x_lt, f2, x_bd, if_neg b_10, f3, x_bp]
        by_cases hneg : a3 < 0
        · rw [m_inG hneg, if_pos rfl]
        · obtain ⟨y, hy, rfl⟩ := nI_of hneg
          rw [m_inL hy (by omega), if_neg (fun hh => h3 (isI_nI (by omega) hh)), if_pos rfl]
  · have ch0 : ChM RL m h2 (sI h2 m 0 0) := ChM.F (by simp [RL]) ChM.rf
    obtain ⟨k1, e1, ch1⟩ := m_layNo (K2 := K2) (n := n) (vg.2.2.kp ch0 (by decide)) vg.1 hi
    refine ⟨-2, h1, k1, ?_, ?_, v.z (ch0.tr ch1)⟩
    · unfold f0_why
      exact c_twoNo kx tr vg hi
    · unfold f11_why
      rw [x_lt, e1, x_bd, if_pos rfl]
end Why
