section TextC
variable {K1 K2 : Ly} {n x m : Nat} {h1 h2 : Hp} {g : Gh} {a1 a2 : Int32}
theorem XG.lfp {h1' h2' : Hp} {l' : Nat} {F Pl : Int32} (vg : XG x h1 m h2 g) (hl : l' ≤ g_l g) (e : ∀ a i, a ≠ x + 1 → a < x + 47 → h1'.1 a i = h1.1 a i) (e1 : h1'.1 (x + 1) 1 = nI l') (e2 : h1'.1 (x + 1) 2 = F) (e3 : h1'.1 (x + 1) 3 = Pl) (q : ∀ a i, (a = 1 ∨ (5 ≤ a ∧ a ≤ 8)) → h2'.1 (m + a) i = h2.1 (m + a) i) (q2 : h2'.1 (m + 2) 0 = nI l') (q3 : h2'.1 (m + 3) 0 = F) (q4 : h2'.1 (m + 4) 0 = Pl) : XG x h1' m h2' (g.1, l', F, Pl, g.2.2.2.2) := by
  obtain ⟨⟨⟨l6, lb⟩, gc, gn, gr, gl⟩, ⟨u1, u2, u3, u4, u5, u6, u7, u8⟩, ⟨w1, w2, w3, w4, w5, w6, w7, w8⟩⟩ := vg
  have c0 := gc 0 (by omega)
  have c1 := gc 1 (by omega)
  have c2 := gc 2 (by omega)
  refine ⟨⟨⟨by show l' ≤ 600; omega, fun i hi => lb i (by have hi : i < l' := hi; omega)⟩, gc, gn, gr, gl⟩, ⟨e1, fun i hi => ?_, e2, e3, fun s hs => ?_, fun i hi => ?_, fun i hi => ?_, fun i hi => ?_⟩, ⟨q2, fun i hi => ?_, q3, q4, fun s hs => ?_, fun i hi p hp => ?_, fun i hi => ⟨?_, fun p q1 q2 => ?_⟩, fun i hi => ⟨?_, fun p q1 q2 => ?_⟩⟩⟩
  · have hi : i < l' := hi
    rw [e _ _ (by omega) (by omega)]; exact u2 i (by omega)
  · rw [e _ _ (by omega) (by omega)]; exact u5 s hs
  · have hi : i < g_c g 0 := hi
    exact (u6 i hi).kp (fun a j h1 h2 => e a j (by omega) (by omega))
  · have hi : i < g_c g 1 := hi
    exact (u7 i hi).kq (fun a j h1 h2 => e a j (by omega) (by omega))
  · have hi : i < g_c g 2 := hi
    exact (u8 i hi).kq (fun a j h1 h2 => e a j (by omega) (by omega))
  · have hi : i < l' := hi
    rw [q 1 _ (by omega)]; exact w2 i (by omega)
  · rw [q 5 _ (by omega)]; exact w5 s hs
  · rw [q 6 _ (by omega)]; exact w6 i hi p hp
  · rw [q 7 _ (by omega)]; exact (w7 i hi).1
  · rw [q 7 _ (by omega)]; exact (w7 i hi).2 p q1 q2
  · rw [q 8 _ (by omega)]; exact (w8 i hi).1
  · rw [q 8 _ (by omega)]; exact (w8 i hi).2 p q1 q2
/-- a text that was read goes to its place -/
theorem both_put {s k : Nat} (kx : KX K1 x) (hn : 5000 ≤ n) (v : XX x h1 m h2) (vg : XG x h1 m h2 g) (hs : s < 3) (hk : k < 2) (hkc : k ≤ g_c g s) (C : Ctn (x + 187) m s h1 h2) {d : Int32} (hd : nI (g_c g s) + d = nI (max (g_c g s) (k + 1))) : CC x m (f0_text_J170 K1 n x (nI s) (nI k) h1) (f11_text_J118 K2 n m (nI s) (nI k) (m + 5) (nI s) (nI (g_c g s)) d h2) := by
  have tr := v.1 0 (by omega)
  have gk := vg.1
  have cs := gk.2.1 s hs
  obtain ⟨c, hc⟩ : ∃ c, c = max (g_c g s) (k + 1) := ⟨_, rfl⟩
  have z0 : (nI s = (0 : Int32)) = (s = 0) := x_eq (ab := 0) (by omega) (by omega)
  have z1 : (nI s = (1 : Int32)) = (s = 1) := x_eq (ab := 1) (by omega) (by omega)
  have jm : ∀ H : Hp, H.1 (x + 1 + 2) s = nI (g_c g s) → f1_put_J54 K1 n (x + 1) (nI s) (nI k) H = some (sI H (x + 1 + 2) s (nI c)) := fun H hH => by
    unfold f1_put_J54 jmax
    rw [x_in hs (by omega), x_gd, x_gd, x_lt, x_cl (by omega), hH, nI_1]
    simp only [x_lt' (show g_c g s < 2147483648 by omega) (show k + 1 < 2147483648 by omega)]
    by_cases hh : g_c g s < k + 1
    · rw [if_pos hh, show c = k + 1 by omega]
    · rw [if_neg hh, show c = g_c g s by omega]
  have ik : inb (nI k) 2 = true := x_in hk (by omega)
  have kk : (nI k).toNatClampNeg = k := x_cl (by omega)
  have hcnt : h1.1 (x + 1 + 2) s = nI (g_c g s) := vg.2.1.2.2.2.2.1 s hs
  obtain ⟨k1, k2, k3⟩ := kx.t (z := 0) (by omega) k hk
  obtain ⟨t1, t2, t3⟩ := tr k hk
  have t1 : h1.2.2 (x + 1 + 3) k = some (x + 1 + 4 + 13 * k) := t1
  have t2 : h1.2.2 (x + 1 + 30) k = some (x + 1 + 31 + 4 * k) := t2
  have t3 : h1.2.2 (x + 1 + 39) k = some (x + 1 + 40 + 3 * k) := t3
  have k1 : K1 (x + 1 + 4 + 13 * k) = some (.inl 2) := k1
  have k2 : K1 (x + 1 + 31 + 4 * k) = some (.inl 3) := k2
  have k3 : K1 (x + 1 + 40 + 3 * k) = some (.inl 4) := k3
  have q5 : ChM [5] m h2 (sI h2 (m + 5) s (nI c)) := ChM.A (by omega) (by simp) ChM.rf
  unfold f0_text_J170 f1_put f11_text_J118
  rw [x_in (show s < 12 by omega) (by omega), x_gd, x_lt, x_cl (show s < 2147483648 by omega), hd, ← hc]
  simp only [z0, z1]
  rcases C with ⟨s0, N', N1, N2, N3⟩ | ⟨s1, q, Q0, Q1, Q2⟩ | ⟨s2, q, Q0, Q1, Q2⟩
  · subst s0
    obtain ⟨p1, a1, a2, a3, a4⟩ := c2copy (K := K1) (n := n) (h := h1) (o := x + 1 + 4 + 13 * k) (a := x + 187 + 1) (by omega)
    obtain ⟨p2, b1, b2, b3, b4⟩ := m_keep (K2 := K2) (n := n) (m := m) (a := 6) (w := 122) (len := 976) (k := k) (by omega) (by omega) (by omega) (by omega) (by omega) hn (sI h2 (m + 5) 0 (nI c))
    have b1 : f11_keep K2 n m (m + 6) 976 (122 : Int32) (nI k) (sI h2 (m + 5) 0 (nI c)) = some p2 := b1
    have v4 := a4 N' N1 N3.2.2.1 N3.2.2.2.1 N3.2.2.2.2.1
    refine ⟨nI k, sI p1 (x + 1 + 2) 0 (nI c), p2, ?_, ?_, ?_⟩
    · rw [if_pos rfl, ik, x_gd, kk, t1, x_ob k1, a1, x_bp, jm p1 (by rw [a3 _ _ (by omega)]; exact hcnt), x_bp]
    · rw [if_pos rfl, b1, x_bp]
    · refine v.st (put_0 (E1 := sI p1 (x + 1 + 2) 0 (nI c)) (E2 := p2) vg hk hc hkc N3 (fun a i h1 h2 => by rw [rI_n (by omega), a3 _ _ (by omega)]) (by rw [show x + 3 = x + 1 + 2 by omega, rI_e]) ?_ (fun a i h1 h2 h3 h4 => by rw [b2.a h3 (by simp; omega), rI_n (by omega)]) (by rw [b2.a (by omega) (by simp), rI_e]) (fun i hi => by rw [b4 i hi, rI_n (by omega)]) (fun p hp => by rw [b3 p hp, rI_n (by omega)]; exact N2 p hp)) (fun a i ha => by rw [show (sI p1 (x + 1 + 2) 0 (nI c)).2.2 = h1.2.2 by rw [rI_r, a2]]) (fun a i h1 h2 => by rw [rI_n (by omega), a3 _ _ (by omega)]) (v.2.1.kp1 a2) ⟨fun i hi => ?_, fun i hi => ⟨?_, ?_, ?_⟩, fun i hi => ?_, fun i hi => ?_, fun i hi => ?_, fun i hi => ?_, fun i => ?_⟩
      · rw [show x + 5 + 13 * k = x + 1 + 4 + 13 * k by omega]
        exact v4.kp (fun a i h1 h2 => by rw [rI_n (by omega)])
      · rw [b2.a (by omega) (by simp), rI_n (by omega)]
      · rw [b2.a (by omega) (by simp), rI_n (by omega)]
      · rw [b2.a (by omega) (by simp), rI_n (by omega)]
      · rw [b2.a (by omega) (by simp), rI_n (by omega)]
      · rw [b2.a (by omega) (by simp), rI_n (by omega)]
      · rw [b4 i (by omega), rI_n (by omega)]
      · rw [b2.a (by omega) (by simp), rI_n (by omega)]
      · rw [b2.a (by omega) (by simp), rI_n (by omega)]
      · rw [b2.a (by omega) (by simp), rI_n (by omega)]
  · subst s1
    have q40 := Q2.1
    obtain ⟨p1, a1, a2, a3, a4⟩ := c3copy (K := K1) (n := n) (h := h1) (o := x + 1 + 31 + 4 * k) (a := x + 187 + 14) (by omega)
    obtain ⟨p2, b1, b2, b3, b4⟩ := m_keep (K2 := K2) (n := n) (m := m) (a := 7) (w := 121) (len := 968) (k := k) (by omega) (by omega) (by omega) (by omega) (by omega) hn (sI h2 (m + 5) 1 (nI c))
    have b1 : f11_keep K2 n m (m + 7) 968 (121 : Int32) (nI k) (sI h2 (m + 5) 1 (nI c)) = some p2 := b1
    have v4 := a4 q _ Q1 q40
    refine ⟨nI k, sI p1 (x + 1 + 2) 1 (nI c), p2, ?_, ?_, ?_⟩
    · rw [if_neg (show ¬ (1 : Nat) = 0 by omega), if_pos rfl, ik, x_gd, kk, t2, x_ob k2, a1, x_bp, jm p1 (by rw [a3 _ _ (by omega)]; exact hcnt), x_bp]
    · rw [if_neg (show ¬ (1 : Nat) = 0 by omega), if_pos rfl, b1, x_bp]
    · refine v.st (put_1 (E1 := sI p1 (x + 1 + 2) 1 (nI c)) (E2 := p2) (q' := q) (R' := fun p => h2.1 (m + 9) p) vg hk hc hkc Q2 (fun a i h1 h2 => by rw [rI_n (by omega), a3 _ _ (by omega)]) (by rw [show x + 3 = x + 1 + 2 by omega, rI_e]) ?_ (fun a i h1 h2 h3 h4 => by rw [b2.a h3 (by simp; omega), rI_n (by omega)]) (by rw [b2.a (by omega) (by simp), rI_e]) (fun i hi => by rw [b4 i hi, rI_n (by omega)]) ((b3 0 (by omega)).trans (by rw [rI_n (by omega)]; exact Q0)) (fun p hp1 hp2 => by rw [b3 p hp2, rI_n (by omega)])) (fun a i ha => by rw [show (sI p1 (x + 1 + 2) 1 (nI c)).2.2 = h1.2.2 by rw [rI_r, a2]]) (fun a i h1 h2 => by rw [rI_n (by omega), a3 _ _ (by omega)]) (v.2.1.kp1 a2) ⟨fun i hi => ?_, fun i hi => ⟨?_, ?_, ?_⟩, fun i hi => ?_, fun i hi => ?_, fun i hi => ?_, fun i hi => ?_, fun i => ?_⟩
      · rw [show x + 32 + 4 * k = x + 1 + 31 + 4 * k by omega]
        exact v4.kq (fun a i h1 h2 => by rw [rI_n (by omega)])
      · rw [b2.a (by omega) (by simp), rI_n (by omega)]
      · rw [b2.a (by omega) (by simp), rI_n (by omega)]
      · rw [b2.a (by omega) (by simp), rI_n (by omega)]
      · rw [b2.a (by omega) (by simp), rI_n (by omega)]
      · rw [b2.a (by omega) (by simp), rI_n (by omega)]
      · rw [b2.a (by omega) (by simp), rI_n (by omega)]
      · rw [b4 i (by omega), rI_n (by omega)]
      · rw [b2.a (by omega) (by simp), rI_n (by omega)]
      · rw [b2.a (by omega) (by simp), rI_n (by omega)]
  · subst s2
    have q8 := Q2.1
    obtain ⟨p1, a1, a2, a3, a4⟩ := c4copy (K := K1) (n := n) (h := h1) (o := x + 1 + 40 + 3 * k) (a := x + 187 + 18) (by omega)
    obtain ⟨p2, b1, b2, b3, b4⟩ := m_keep (K2 := K2) (n := n) (m := m) (a := 8) (w := 17) (len := 136) (k := k) (by omega) (by omega) (by omega) (by omega) (by omega) hn (sI h2 (m + 5) 2 (nI c))
    have b1 : f11_keep K2 n m (m + 8) 136 (17 : Int32) (nI k) (sI h2 (m + 5) 2 (nI c)) = some p2 := b1
    have v4 := a4 q _ Q1 q8
    refine ⟨nI k, sI p1 (x + 1 + 2) 2 (nI c), p2, ?_, ?_, ?_⟩
    · rw [if_neg (show ¬ (2 : Nat) = 0 by omega), if_neg (show ¬ (2 : Nat) = 1 by omega), ik, x_gd, kk, t3, x_ob k3, a1, x_bp, jm p1 (by rw [a3 _ _ (by omega)]; exact hcnt), x_bp]
    · rw [if_neg (show ¬ (2 : Nat) = 0 by omega), if_neg (show ¬ (2 : Nat) = 1 by omega), b1, x_bp]
    · refine v.st (put_2 (E1 := sI p1 (x + 1 + 2) 2 (nI c)) (E2 := p2) (q' := q) (R' := fun p => h2.1 (m + 9) p) vg hk hc hkc Q2 (fun a i h1 h2 => by rw [rI_n (by omega), a3 _ _ (by omega)]) (by rw [show x + 3 = x + 1 + 2 by omega, rI_e]) ?_ (fun a i h1 h2 h3 h4 => by rw [b2.a h3 (by simp; omega), rI_n (by omega)]) (by rw [b2.a (by omega) (by simp), rI_e]) (fun i hi => by rw [b4 i hi, rI_n (by omega)]) ((b3 0 (by omega)).trans (by rw [rI_n (by omega)]; exact Q0)) (fun p hp1 hp2 => by rw [b3 p hp2, rI_n (by omega)])) (fun a i ha => by rw [show (sI p1 (x + 1 + 2) 2 (nI c)).2.2 = h1.2.2 by rw [rI_r, a2]]) (fun a i h1 h2 => by rw [rI_n (by omega), a3 _ _ (by omega)]) (v.2.1.kp1 a2) ⟨fun i hi => ?_, fun i hi => ⟨?_, ?_, ?_⟩, fun i hi => ?_, fun i hi => ?_, fun i hi => ?_, fun i hi => ?_, fun i => ?_⟩
      · rw [show x + 41 + 3 * k = x + 1 + 40 + 3 * k by omega]
        exact v4.kq (fun a i h1 h2 => by rw [rI_n (by omega)])
      · rw [b2.a (by omega) (by simp), rI_n (by omega)]
      · rw [b2.a (by omega) (by simp), rI_n (by omega)]
      · rw [b2.a (by omega) (by simp), rI_n (by omega)]
      · rw [b2.a (by omega) (by simp), rI_n (by omega)]
      · rw [b2.a (by omega) (by simp), rI_n (by omega)]
      · rw [b2.a (by omega) (by simp), rI_n (by omega)]
      · rw [b2.a (by omega) (by simp), rI_n (by omega)]
      · rw [b4 i (by omega), rI_n (by omega)]
      · rw [b2.a (by omega) (by simp), rI_n (by omega)]
end TextC
