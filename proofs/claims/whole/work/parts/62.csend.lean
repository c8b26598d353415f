/-! the class sends -/
section CSend
variable {K : Ly} {n c o : Nat} {h : Hp} {N : Nat → Nat} {aw : Int32}
theorem ccopy {a b : Nat} (hab : a ≠ b) : ∃ h', f7_copy K n a b h = some h' ∧ (∀ i, i < 14 → h'.1 a i = h.1 b i) ∧ (∀ x i, x ≠ a → h'.1 x i = h.1 x i) ∧ h'.2 = h.2 := by
  refine ⟨_, rfl, fun i hi => ?_, fun x i hx => ?_, rfl⟩
  · match i, hi with
    | 0, _ => simp (disch := omega) only [rI_n, rI_e]
    | 1, _ => simp (disch := omega) only [rI_n, rI_e]
    | 2, _ => simp (disch := omega) only [rI_n, rI_e]
    | 3, _ => simp (disch := omega) only [rI_n, rI_e]
    | 4, _ => simp (disch := omega) only [rI_n, rI_e]
    | 5, _ => simp (disch := omega) only [rI_n, rI_e]
    | 6, _ => simp (disch := omega) only [rI_n, rI_e]
    | 7, _ => simp (disch := omega) only [rI_n, rI_e]
    | 8, _ => simp (disch := omega) only [rI_n, rI_e]
    | 9, _ => simp (disch := omega) only [rI_n, rI_e]
    | 10, _ => simp (disch := omega) only [rI_n, rI_e]
    | 11, _ => simp (disch := omega) only [rI_n, rI_e]
    | 12, _ => simp (disch := omega) only [rI_n, rI_e]
    | 13, _ => simp (disch := omega) only [rI_n, rI_e]
    | i + 14, h => omega
  · simp (disch := omega) only [rI_n]
theorem agP_msg {a : Nat → Int32} {p : Ms} {x y : Nat} {d : Int32} (hp : agP a p) : agP a (msg x y d p) := hp
theorem agP_tr {a a' : Nat → Int32} {p : Ms} (hp : agP a p) (e : ∀ i, i < 14 → i ≠ 1 → i ≠ 2 → i ≠ 3 → a' i = a i) : agP a' p := by
  obtain ⟨h0, h4, h1, h2, h3⟩ := hp
  refine ⟨?_, ?_, fun q => ⟨?_, ?_⟩, fun q => ⟨?_, ?_, ?_, ?_⟩, fun q => ⟨?_, ?_, ?_, ?_⟩⟩ <;> rw [e _ (by omega) (by omega) (by omega) (by omega)]
  · exact h0
  · exact h4
  · exact (h1 q).1
  · exact (h1 q).2
  · exact (h2 q).1
  · exact (h2 q).2.1
  · exact (h2 q).2.2.1
  · exact (h2 q).2.2.2
  · exact (h3 q).1
  · exact (h3 q).2.1
  · exact (h3 q).2.2.1
  · exact (h3 q).2.2.2
theorem ctick {i : Nat} {st : St} (hi : i < 6) (v : vC K c h o N aw st) : vC K c (sI h (c + 22) i (h.1 (c + 22) i + 1)) o N aw (tick st i) ∧ Ch [9] c h (sI h (c + 22) i (h.1 (c + 22) i + 1)) := by
  obtain ⟨v1, v2, v3, v4, v5, v6, v7, v8, v9, v10⟩ := v
  have q : Ch [9] c h (sI h (c + 22) i (h.1 (c + 22) i + 1)) := Ch.I 9 rg_22 (by simp) Ch.rf
  refine ⟨⟨v1.kp q (by simp) (by simp), now_kp v2 q (by simp), dn_kp v3 q (by simp), v4.kp q (by simp), v5.kp q (by simp), v6.kp q (by simp), v7.kp q (by simp), v8.kp q (by simp), v9.kp q (by simp), fun j hj => ?_⟩, q⟩
  show _ = ug (s_T st) i _ j
  by_cases hji : j = i
  · subst hji; rw [ug_e, rI_e, v10 j hj]
  · rw [ug_n hji, rI_n (by omega)]; exact v10 j hj
theorem csend {a b : Nat} {p : Ms} {st : St} (ok : nOk N) (kc : KC K c) (ha : a < 6) (hb : b < 6) (hF : (s_F st).length < 360) (v : vC K c h o N aw st) (w : cvQ c h p) : ∃ h', f10_send K n c (nI a) (nI b) h = some h' ∧ vC K c h' o N aw (send N aw st a b p) ∧ Ch [2, 9] c h h' := by
  obtain ⟨v1, v2, v3, v4, v5, v6, v7, v8, v9, v10⟩ := id v
  obtain ⟨⟨n1, n2, n3, n4⟩, n5⟩ := v1
  have hN : N 2 ≤ 15 := ok.2.2.1
  have e0 : nI a * (6 : Int32) + nI b = nI (6 * a + b) := by rw [l_6, pk_mul, nI_add, Nat.mul_comm]
  have e1 : inb (nI (6 * a + b)) 36 = true := x_in (by omega) (by omega)
  have e2 : (nI (6 * a + b)).toNatClampNeg = 6 * a + b := x_cl (by omega)
  have e3 := n3.2.2.2.1 (6 * a + b) (by omega)
  have e4 := cisUp ok (c := c) (i := 6 * a + b) (h := h)
  rw [n4, v3] at e4
  cases hu : upL N aw (s_d st) (6 * a + b) with
  | none =>
    obtain ⟨q1, q2⟩ := ctick (i := 5) (by omega) v
    refine ⟨sI h (c + 22) 5 (h.1 (c + 22) 5 + 1), ?_, ?_, q2.up (by simp)⟩
    · rw [hu] at e4
      simp only [f10_send, n1, x_ob n2, e0, e1, e2, e3, x_gd, x_lt, e4, Option.isSome_none, Bool.false_eq_true, if_false, if_true]; rfl
    · simp only [send, hu]; exact q1
  | some l =>
    obtain ⟨u1, u2, u3⟩ := upL_lt hu
    obtain ⟨pp, Le, f1, f2⟩ := v5
    have fl := f2.len
    have fp := f1.1 Le.length (by omega)
    have g1 : h.1 c 8 = nI Le.length := f1.2.2.2.1
    have g2 : ¬ (360 : Int32) ≤ nI Le.length := by rw [l_360]; exact nI_ge (by omega) (by omega)
    have g3 : inb (nI Le.length) 360 = true := x_in (by omega) (by omega)
    have g4 : (nI Le.length).toNatClampNeg = Le.length := x_cl (by omega)
    obtain ⟨h1, c1, c2, c3, c4⟩ := ccopy (K := K) (n := n) (h := h) (a := c + 24 + 2 * pp Le.length) (b := c + 17) (by omega)
    have d1 : h1.2.2 c 0 = some o := by rw [c4]; exact n1
    have d2 : h1.1 c 2 = nI (s_n st) := (c3 _ _ (by omega)).trans v2
    have d3 : h1.1 (o + 4) l = nI (N (13 + 3 * l)) := (c3 _ _ (by omega)).trans (n3.2.2.1 l u1).2.2
    have d4 : h1.1 c 8 = nI Le.length := (c3 _ _ (by omega)).trans g1
    have d5 : h1.1 (c + 22) 0 = s_T st 0 := (c3 _ _ (by omega)).trans (v10 0 (by omega))
    have i1 : inb (nI l) 15 = true := x_in (by omega) (by omega)
    have i2 : (nI l).toNatClampNeg = l := x_cl (by omega)
    let mm := c + 24 + 2 * pp Le.length
    let h2 := sI (sI (sI h1 mm 1 (nI a)) mm 2 (nI b)) mm 3 (nI (s_n st + N (13 + 3 * l)))
    let h3 := sI (sI h2 c 8 (nI (Le.length + 1))) (c + 22) 0 (s_T st 0 + 1)
    have ch1 : Ch [2, 9] c h h1 := fun x k hx => by
      by_cases hxa : x = mm
      · exfalso; apply hx; rw [hxa, rg_m fp.1]; simp
      · exact ⟨c3 x k hxa, by rw [c4], by rw [c4]⟩
    have ch3 : Ch [2, 9] c h h3 := Ch.I 9 rg_22 (by simp) (Ch.I 2 rg_c8 (by simp) (Ch.I 2 (rg_m fp.1) (by simp) (Ch.I 2 (rg_m fp.1) (by simp) (Ch.I 2 (rg_m fp.1) (by simp) ch1))))
    refine ⟨h3, ?_, ?_, ch3⟩
    · rw [hu, u2] at e4
      rw [u2] at e3
      have e4 : f10_isUp c (nI l) h = 1 := e4
      have e3 : h.1 (o + 5) (6 * a + b) = nI l := e3
      have z0 : ∀ x y : Int32, (sI (sI h1 mm 1 x) mm 2 y).2.2 c 0 = some o := fun x y => d1
      simp only [f10_send, n1, x_ob n2, e0, e1, e2, e3, x_gd, x_lt, e4, if_neg b_10, g1, if_neg g2, g3, g4, fp.2, x_ob (kc.2.1 _ fp.1), c1, x_bp, i1, i2]
      show (ob ((sI (sI h1 mm 1 (nI a)) mm 2 (nI b)).2.2 c 0) K 2 fun o13 => _) = _
      rw [z0, x_ob n2]
      have y1 : (sI (sI h1 mm 1 (nI a)) mm 2 (nI b)).1 c 2 = nI (s_n st) := by rw [rI_n (by omega), rI_n (by omega), d2]
      have y2 : (sI (sI h1 mm 1 (nI a)) mm 2 (nI b)).1 (o + 4) l = nI (N (13 + 3 * l)) := by rw [rI_n (by omega), rI_n (by omega), d3]
      have y3 : h2.1 c 8 = nI Le.length := by show (sI (sI (sI h1 mm 1 (nI a)) mm 2 (nI b)) mm 3 (nI (s_n st + N (13 + 3 * l)))).1 c 8 = _; rw [rI_n (by omega), rI_n (by omega), rI_n (by omega), d4]
      have y4 : (sI h2 c 8 (nI (Le.length + 1))).1 (c + 22) 0 = s_T st 0 := by rw [rI_n (by omega)]; show (sI (sI (sI h1 mm 1 (nI a)) mm 2 (nI b)) mm 3 (nI (s_n st + N (13 + 3 * l)))).1 (c + 22) 0 = _; rw [rI_n (by omega), rI_n (by omega), rI_n (by omega), d5]
      rw [y1, y2, nI_add]
      show some (sI (sI h2 c 8 (h2.1 c 8 + 1)) (c + 22) 0 ((sI h2 c 8 (h2.1 c 8 + 1)).1 (c + 22) 0 + 1)) = _
      rw [y3, nI_1, y4]
    · simp only [send, hu]
      refine ⟨⟨⟨?_, n2, n3.kp (fun x k x1 x2 => (ch3 x k (by rw [rg_o (by omega)]; simp)).1), ?_⟩, n5⟩, now_kp v2 ch3 (by simp), dn_kp v3 ch3 (by simp), v4.kp ch3 (by simp), ?_, v6.kp ch3 (by simp), v7.kp ch3 (by simp), v8.kp ch3 (by simp), v9.kp ch3 (by simp), fun j hj => ?_⟩
      · rw [(ch3 c 0 (by rw [rg_c0]; simp)).2.2]; exact n1
      · rw [(ch3 c 1 (by rw [rg_c1]; simp)).1]; exact n4
      · refine ⟨pp, Le ++ [rwo h3 mm], f1.push (by omega) ?_ (fun i hi => ?_) (fun j hj hne => ?_) rfl, f2.app (Ag2.one ⟨?_, ?_, ?_, ?_⟩)⟩
        · show (sI (sI h2 c 8 (nI (Le.length + 1))) (c + 22) 0 (s_T st 0 + 1)).1 c 8 = _
          rw [rI_n (by omega), rI_e]
        · show h1.2.2 (c + 15) i = _; rw [c4]
        · have : c + 24 + 2 * j ≠ mm := by show c + 24 + 2 * j ≠ c + 24 + 2 * pp Le.length; omega
          unfold rwo
          refine Prod.ext (funext fun i => ?_) ?_
          · show (sI (sI (sI (sI (sI h1 mm 1 (nI a)) mm 2 (nI b)) mm 3 (nI (s_n st + N (13 + 3 * l)))) c 8 (nI (Le.length + 1))) (c + 22) 0 (s_T st 0 + 1)).1 (c + 24 + 2 * j) i = _
            rw [rI_n (by omega), rI_n (by omega), rI_n (by omega), rI_n (by omega), rI_n (by omega), c3 _ _ this]
          · show h1.2.1 _ = _; rw [c4]
        · refine agP_tr (a := h.1 (c + 17)) (agP_msg w) (fun i i1 i2 i3 i4 => ?_)
          show (sI (sI (sI (sI (sI h1 mm 1 (nI a)) mm 2 (nI b)) mm 3 (nI (s_n st + N (13 + 3 * l)))) c 8 (nI (Le.length + 1))) (c + 22) 0 (s_T st 0 + 1)).1 mm i = _
          rw [rI_n (by omega), rI_n (by omega), rI_n (by omega), rI_n (by omega), rI_n (by omega), c2 i i1]
        · show (sI (sI (sI (sI (sI h1 mm 1 (nI a)) mm 2 (nI b)) mm 3 (nI (s_n st + N (13 + 3 * l)))) c 8 (nI (Le.length + 1))) (c + 22) 0 (s_T st 0 + 1)).1 mm 1 = _
          rw [rI_n (by omega), rI_n (by omega), rI_n (by omega), rI_n (by omega), rI_e]; rfl
        · show (sI (sI (sI (sI (sI h1 mm 1 (nI a)) mm 2 (nI b)) mm 3 (nI (s_n st + N (13 + 3 * l)))) c 8 (nI (Le.length + 1))) (c + 22) 0 (s_T st 0 + 1)).1 mm 2 = _
          rw [rI_n (by omega), rI_n (by omega), rI_n (by omega), rI_e]; rfl
        · show (sI (sI (sI (sI (sI h1 mm 1 (nI a)) mm 2 (nI b)) mm 3 (nI (s_n st + N (13 + 3 * l)))) c 8 (nI (Le.length + 1))) (c + 22) 0 (s_T st 0 + 1)).1 mm 3 = _
          rw [rI_n (by omega), rI_n (by omega), rI_e]; rfl
      · show _ = ug (s_T st) 0 _ j
        show (sI (sI h2 c 8 (nI (Le.length + 1))) (c + 22) 0 (s_T st 0 + 1)).1 (c + 22) j = _
        by_cases hj0 : j = 0
        · subst hj0; rw [ug_e, rI_e]; rfl
        · rw [ug_n hj0, rI_n (by omega), rI_n (by omega)]
          show (sI (sI (sI h1 mm 1 (nI a)) mm 2 (nI b)) mm 3 (nI (s_n st + N (13 + 3 * l)))).1 (c + 22) j = _
          rw [rI_n (by omega), rI_n (by omega), rI_n (by omega), c3 _ _ (by omega)]
          exact v10 j hj
theorem cansw {nd k : Nat} {fr : Option Nat} {p : Ms} {st : St} (ok : nOk N) (kc : KC K c) (hn : nd < 6) (hf : ∀ f, fr = some f → f < 6 ∧ (s_F st).length < 360) (hk : k < 60) (hp : p 0 = 1 ∨ p 0 = 2) (v : vC K c h o N aw st) (w : cvQ c h p) : ∃ h', f10_answer K n c (nI nd) (oI fr) (nI k) h = some h' ∧ vC K c h' o N aw (answ N aw st nd fr k p) ∧ Ch [2, 8, 9] c h h' := by
  cases fr with
  | none =>
    obtain ⟨h', q1, q2, q3⟩ := csettle (n := n) kc hk hp v w
    refine ⟨h', ?_, q2, q3.up (by simp)⟩
    simp only [f10_answer, oI, if_true, q1, x_bp]
  | some f =>
    obtain ⟨hf1, hf2⟩ := hf f rfl
    obtain ⟨h', q1, q2, q3⟩ := csend (n := n) (a := nd) (b := f) ok kc hn hf1 hf2 v w
    refine ⟨h', ?_, q2, q3.up (by simp)⟩
    simp only [f10_answer, oI, x_nm1 (show f < 2147483648 by omega), if_false, q1, x_bp]
end CSend
