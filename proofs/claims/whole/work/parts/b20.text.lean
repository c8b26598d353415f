/-! text: both sides alike -/
def uS (c : Nat → Nat) (s v : Nat) : Nat → Nat := fun q => if q = s then v else c q
def uG {α : Type} (c : Nat → α) (s : Nat) (v : α) : Nat → α := fun q => if q = s then v else c q
theorem uG_e {α : Type} {c : Nat → α} {s : Nat} {v : α} : uG c s v s = v := by unfold uG; rw [if_pos rfl]
theorem uG_n {α : Type} {c : Nat → α} {s q : Nat} {v : α} (h : q ≠ s) : uG c s v q = c q := by unfold uG; rw [if_neg h]
section Text
variable {K1 K2 : Ly} {n x m : Nat} {h1 h2 : Hp} {g : Gh} {a1 a2 : Int32}
theorem m_keep {a w len k : Nat} (ha : 0 < a) (ha9 : a ≠ 9) (hw : w ≤ 122) (hl : len < 100000) (hk : w * k + w ≤ len) (hn : 5000 ≤ n) (h : Hp) : ∃ h', f11_keep K2 n m (m + a) len (nI w) (nI k) h = some h' ∧ ChM [a] m h h' ∧ (∀ i, i < w → h'.1 (m + a) (w * k + i) = h.1 (m + 9) i) ∧ (∀ i, ¬ (w * k ≤ i ∧ i < w * k + w) → h'.1 (m + a) i = h.1 (m + a) i) := by
  have go : ∀ (d i fu : Nat) (h : Hp), i + d = w → d < fu → ∃ h', f11_keep_L3 K2 n len m (m + a) (nI w) (nI k) fu (nI i) h = some h' ∧ ChM [a] m h h' ∧ (∀ j, i ≤ j → j < w → h'.1 (m + a) (w * k + j) = h.1 (m + 9) j) ∧ (∀ j, ¬ (w * k + i ≤ j ∧ j < w * k + w) → h'.1 (m + a) j = h.1 (m + a) j) := by
    intro d
    induction d with
    | zero =>
      intro i fu h hi hf
      obtain ⟨fu, rfl⟩ : ∃ g, fu = g + 1 := ⟨fu - 1, by omega⟩
      have e1 : nI w ≤ nI i := nI_le (by omega) (by omega)
      exact ⟨h, by rw [f11_keep_L3, if_pos e1], ChM.rf, fun j h1 h2 => by omega, fun _ _ => rfl⟩
    | succ d ih =>
      intro i fu h hi hf
      obtain ⟨fu, rfl⟩ : ∃ g, fu = g + 1 := ⟨fu - 1, by omega⟩
      have e1 : ¬ nI w ≤ nI i := nI_ge (by omega) (by omega)
      have e2 : nI w * nI k + nI i = nI (w * k + i) := by rw [pk_mul, nI_add]
      obtain ⟨h', g1, g2, g3, g4⟩ := ih (i + 1) fu (sI h (m + a) (w * k + i) (h.1 (m + 9) i)) (by omega) (by omega)
      refine ⟨h', ?_, (ChM.A ha (by simp) ChM.rf).tr g2, fun j h1 h2 => ?_, fun j hj => ?_⟩
      · rw [f11_keep_L3, if_neg e1, x_in (show i < 122 by omega) (by omega), x_gd, e2, x_in (show w * k + i < len by omega) (by omega), x_gd, x_lt, x_lt, nI_1, x_cl (by omega), x_cl (by omega)]
        exact g1
      · by_cases hj : j = i
        · subst hj; rw [g4 _ (by omega), rI_e]
        · rw [g3 j (by omega) h2, rI_n (by omega)]
      · rw [g4 j (by omega), rI_n (by omega)]
  obtain ⟨h', g1, g2, g3, g4⟩ := go w 0 n h (by omega) (by omega)
  exact ⟨h', g1, g2, fun i hi => g3 i (by omega) hi, fun i hi => g4 i (by omega)⟩
/-- the count and the text, told: what both sides hold then -/
theorem put_0 {k c : Nat} {E1 E2 : Hp} {N' : Nat → Nat} (vg : XG x h1 m h2 g) (hk : k < 2) (hc : c = max (g_c g 0) (k + 1)) (hkc : k ≤ g_c g 0) (ok : nOk N')
    (e : ∀ a i, ¬ (x + 5 + 13 * k ≤ a ∧ a < x + 5 + 13 * k + 13) → ¬ (a = x + 3 ∧ i = 0) → E1.1 a i = h1.1 a i) (ec : E1.1 (x + 3) 0 = nI c) (vN' : vN (x + 5 + 13 * k) E1 N')
    (q : ∀ a i, a ≠ 6 → ¬ (a = 5 ∧ i = 0) → 0 < a → a < 9 → E2.1 (m + a) i = h2.1 (m + a) i) (qc : E2.1 (m + 5) 0 = nI c) (q6 : ∀ i, ¬ (122 * k ≤ i ∧ i < 122 * k + 122) → E2.1 (m + 6) i = h2.1 (m + 6) i) (q6' : ∀ p, p < 122 → E2.1 (m + 6) (122 * k + p) = nI (N' p)) :
    XG x E1 m E2 (g.1, g.2.1, g.2.2.1, g.2.2.2.1, uG (g_c g) 0 c, uG (g_N g) k N', g.2.2.2.2.2.2) := by
  obtain ⟨⟨l6, gc, gn, gr, gl⟩, ⟨u1, u2, u3, u4, u5, u6, u7, u8⟩, ⟨w1, w2, w3, w4, w5, w6, w7, w8⟩⟩ := vg
  have c0 := gc 0 (by omega)
  have c1 := gc 1 (by omega)
  have c2 := gc 2 (by omega)
  refine ⟨⟨l6, fun s hs => ?_, fun i hi => ?_, fun i hi => gr i hi, fun i hi => gl i hi⟩, ⟨?_, fun i hi => ?_, ?_, ?_, fun s hs => ?_, fun i hi => ?_, fun i hi => ?_, fun i hi => ?_⟩, ⟨?_, fun i hi => ?_, ?_, ?_, fun s hs => ?_, fun i hi p hp => ?_, fun i hi => ⟨?_, fun p q1 q2 => ?_⟩, fun i hi => ⟨?_, fun p q1 q2 => ?_⟩⟩⟩
  · show uG (g_c g) 0 c s ≤ 2
    by_cases h0 : s = 0
    · rw [h0, uG_e]; omega
    · rw [uG_n h0]; exact gc s hs
  · have hi : i < uG (g_c g) 0 c 0 := hi
    rw [uG_e] at hi
    show nOk (uG (g_N g) k N' i)
    by_cases hik : i = k
    · rw [hik, uG_e]; exact ok
    · rw [uG_n hik]; exact gn i (by omega)
  · rw [e _ _ (by omega) (by omega)]; exact u1
  · have hi : i < g_l g := hi
    rw [e _ _ (by omega) (by omega)]; exact u2 i hi
  · rw [e _ _ (by omega) (by omega)]; exact u3
  · rw [e _ _ (by omega) (by omega)]; exact u4
  · show _ = nI (uG (g_c g) 0 c s)
    by_cases h0 : s = 0
    · rw [h0, uG_e]; exact ec
    · rw [uG_n h0, e _ _ (by omega) (by omega)]; exact u5 s hs
  · have hi : i < uG (g_c g) 0 c 0 := hi
    rw [uG_e] at hi
    show vN (x + 1 + 4 + 13 * i) E1 (uG (g_N g) k N' i)
    by_cases hik : i = k
    · rw [hik, uG_e, show x + 1 + 4 + 13 * k = x + 5 + 13 * k by omega]; exact vN'
    · rw [uG_n hik]
      exact (u6 i (by omega)).kp (fun a j h1 h2 => e a j (by omega) (by omega))
  · exact (u7 i hi).kq (fun a j h1 h2 => e a j (by omega) (by omega))
  · exact (u8 i hi).kq (fun a j h1 h2 => e a j (by omega) (by omega))
  · rw [q 2 _ (by omega) (by omega) (by omega) (by omega)]; exact w1
  · have hi : i < g_l g := hi
    rw [q 1 _ (by omega) (by omega) (by omega) (by omega)]; exact w2 i hi
  · rw [q 3 _ (by omega) (by omega) (by omega) (by omega)]; exact w3
  · rw [q 4 _ (by omega) (by omega) (by omega) (by omega)]; exact w4
  · show _ = nI (uG (g_c g) 0 c s)
    by_cases h0 : s = 0
    · rw [h0, uG_e]; exact qc
    · rw [uG_n h0, q 5 _ (by omega) (by omega) (by omega) (by omega)]; exact w5 s hs
  · have hi : i < uG (g_c g) 0 c 0 := hi
    rw [uG_e] at hi
    show _ = nI (uG (g_N g) k N' i p)
    by_cases hik : i = k
    · rw [hik, uG_e, show 122 * (2 * 0 + k) + p = 122 * k + p by omega]; exact q6' p hp
    · rw [uG_n hik, q6 _ (by omega)]; exact w6 i (by omega) p hp
  · rw [q 7 _ (by omega) (by omega) (by omega) (by omega)]; exact (w7 i hi).1
  · rw [q 7 _ (by omega) (by omega) (by omega) (by omega)]; exact (w7 i hi).2 p q1 q2
  · rw [q 8 _ (by omega) (by omega) (by omega) (by omega)]; exact (w8 i hi).1
  · rw [q 8 _ (by omega) (by omega) (by omega) (by omega)]; exact (w8 i hi).2 p q1 q2
theorem put_1 {k c q' : Nat} {E1 E2 : Hp} {R' : Nat → Int32} (vg : XG x h1 m h2 g) (hk : k < 2) (hc : c = max (g_c g 1) (k + 1)) (hkc : k ≤ g_c g 1) (ok : rOk q' R')
    (e : ∀ a i, ¬ (x + 32 + 4 * k ≤ a ∧ a < x + 32 + 4 * k + 4) → ¬ (a = x + 3 ∧ i = 1) → E1.1 a i = h1.1 a i) (ec : E1.1 (x + 3) 1 = nI c) (vN' : vR (x + 32 + 4 * k) E1 q' R')
    (q : ∀ a i, a ≠ 7 → ¬ (a = 5 ∧ i = 1) → 0 < a → a < 9 → E2.1 (m + a) i = h2.1 (m + a) i) (qc : E2.1 (m + 5) 1 = nI c) (q6 : ∀ i, ¬ (121 * k ≤ i ∧ i < 121 * k + 121) → E2.1 (m + 7) i = h2.1 (m + 7) i) (q60 : E2.1 (m + 7) (121 * k) = nI q') (q6' : ∀ p, 1 ≤ p → p < 121 → E2.1 (m + 7) (121 * k + p) = R' p) :
    XG x E1 m E2 (g.1, g.2.1, g.2.2.1, g.2.2.2.1, uG (g_c g) 1 c, g_N g, uG (g_q g) k q', uG (g_R g) k R', g.2.2.2.2.2.2.2.2) := by
  obtain ⟨⟨l6, gc, gn, gr, gl⟩, ⟨u1, u2, u3, u4, u5, u6, u7, u8⟩, ⟨w1, w2, w3, w4, w5, w6, w7, w8⟩⟩ := vg
  have c0 := gc 0 (by omega)
  have c1 := gc 1 (by omega)
  have c2 := gc 2 (by omega)
  refine ⟨⟨l6, fun s hs => ?_, fun i hi => gn i hi, fun i hi => ?_, fun i hi => gl i hi⟩, ⟨?_, fun i hi => ?_, ?_, ?_, fun s hs => ?_, fun i hi => ?_, fun i hi => ?_, fun i hi => ?_⟩, ⟨?_, fun i hi => ?_, ?_, ?_, fun s hs => ?_, fun i hi p hp => ?_, fun i hi => ?_, fun i hi => ⟨?_, fun p q1 q2 => ?_⟩⟩⟩
  · show uG (g_c g) 1 c s ≤ 2
    by_cases h0 : s = 1
    · rw [h0, uG_e]; omega
    · rw [uG_n h0]; exact gc s hs
  · have hi : i < uG (g_c g) 1 c 1 := hi
    rw [uG_e] at hi
    show rOk (uG (g_q g) k q' i) (uG (g_R g) k R' i)
    by_cases hik : i = k
    · rw [hik, uG_e, uG_e]; exact ok
    · rw [uG_n hik, uG_n hik]; exact gr i (by omega)
  · rw [e _ _ (by omega) (by omega)]; exact u1
  · have hi : i < g_l g := hi
    rw [e _ _ (by omega) (by omega)]; exact u2 i hi
  · rw [e _ _ (by omega) (by omega)]; exact u3
  · rw [e _ _ (by omega) (by omega)]; exact u4
  · show _ = nI (uG (g_c g) 1 c s)
    by_cases h0 : s = 1
    · rw [h0, uG_e]; exact ec
    · rw [uG_n h0, e _ _ (by omega) (by omega)]; exact u5 s hs
  · have hi : i < g_c g 0 := hi
    exact (u6 i hi).kp (fun a j h1 h2 => e a j (by omega) (by omega))
  · have hi : i < uG (g_c g) 1 c 1 := hi
    rw [uG_e] at hi
    show vR (x + 1 + 31 + 4 * i) E1 (uG (g_q g) k q' i) (uG (g_R g) k R' i)
    by_cases hik : i = k
    · rw [hik, uG_e, uG_e, show x + 1 + 31 + 4 * k = x + 32 + 4 * k by omega]; exact vN'
    · rw [uG_n hik, uG_n hik]
      exact (u7 i (by omega)).kq (fun a j h1 h2 => e a j (by omega) (by omega))
  · have hi : i < g_c g 2 := hi
    exact (u8 i hi).kq (fun a j h1 h2 => e a j (by omega) (by omega))
  · rw [q 2 _ (by omega) (by omega) (by omega) (by omega)]; exact w1
  · have hi : i < g_l g := hi
    rw [q 1 _ (by omega) (by omega) (by omega) (by omega)]; exact w2 i hi
  · rw [q 3 _ (by omega) (by omega) (by omega) (by omega)]; exact w3
  · rw [q 4 _ (by omega) (by omega) (by omega) (by omega)]; exact w4
  · show _ = nI (uG (g_c g) 1 c s)
    by_cases h0 : s = 1
    · rw [h0, uG_e]; exact qc
    · rw [uG_n h0, q 5 _ (by omega) (by omega) (by omega) (by omega)]; exact w5 s hs
  · rw [q 6 _ (by omega) (by omega) (by omega) (by omega)]; exact w6 i hi p hp
  · have hi : i < uG (g_c g) 1 c 1 := hi
    rw [uG_e] at hi
    show E2.1 (m + 7) (121 * (2 * 0 + i)) = nI (uG (g_q g) k q' i) ∧ ∀ p, 1 ≤ p → p < 121 → E2.1 (m + 7) (121 * (2 * 0 + i) + p) = uG (g_R g) k R' i p
    by_cases hik : i = k
    · rw [hik, uG_e, uG_e, show 121 * (2 * 0 + k) = 121 * k by omega]; exact ⟨q60, q6'⟩
    · rw [uG_n hik, uG_n hik, q6 _ (by omega)]
      refine ⟨(w7 i (by omega)).1, fun p q1 q2 => ?_⟩
      rw [q6 _ (by omega)]; exact (w7 i (by omega)).2 p q1 q2
  · rw [q 8 _ (by omega) (by omega) (by omega) (by omega)]; exact (w8 i hi).1
  · rw [q 8 _ (by omega) (by omega) (by omega) (by omega)]; exact (w8 i hi).2 p q1 q2
theorem put_2 {k c q' : Nat} {E1 E2 : Hp} {R' : Nat → Int32} (vg : XG x h1 m h2 g) (hk : k < 2) (hc : c = max (g_c g 2) (k + 1)) (hkc : k ≤ g_c g 2) (ok : lOk q' R')
    (e : ∀ a i, ¬ (x + 41 + 3 * k ≤ a ∧ a < x + 41 + 3 * k + 3) → ¬ (a = x + 3 ∧ i = 2) → E1.1 a i = h1.1 a i) (ec : E1.1 (x + 3) 2 = nI c) (vN' : vL (x + 41 + 3 * k) E1 q' R')
    (q : ∀ a i, a ≠ 8 → ¬ (a = 5 ∧ i = 2) → 0 < a → a < 9 → E2.1 (m + a) i = h2.1 (m + a) i) (qc : E2.1 (m + 5) 2 = nI c) (q6 : ∀ i, ¬ (17 * k ≤ i ∧ i < 17 * k + 17) → E2.1 (m + 8) i = h2.1 (m + 8) i) (q60 : E2.1 (m + 8) (17 * k) = nI q') (q6' : ∀ p, 1 ≤ p → p < 17 → E2.1 (m + 8) (17 * k + p) = R' p) :
    XG x E1 m E2 (g.1, g.2.1, g.2.2.1, g.2.2.2.1, uG (g_c g) 2 c, g_N g, g_q g, g_R g, uG (g_k g) k q', uG (g_L g) k R') := by
  obtain ⟨⟨l6, gc, gn, gr, gl⟩, ⟨u1, u2, u3, u4, u5, u6, u7, u8⟩, ⟨w1, w2, w3, w4, w5, w6, w7, w8⟩⟩ := vg
  have c0 := gc 0 (by omega)
  have c1 := gc 1 (by omega)
  have c2 := gc 2 (by omega)
  refine ⟨⟨l6, fun s hs => ?_, fun i hi => gn i hi, fun i hi => gr i hi, fun i hi => ?_⟩, ⟨?_, fun i hi => ?_, ?_, ?_, fun s hs => ?_, fun i hi => ?_, fun i hi => ?_, fun i hi => ?_⟩, ⟨?_, fun i hi => ?_, ?_, ?_, fun s hs => ?_, fun i hi p hp => ?_, fun i hi => ⟨?_, fun p q1 q2 => ?_⟩, fun i hi => ?_⟩⟩
  · show uG (g_c g) 2 c s ≤ 2
    by_cases h0 : s = 2
    · rw [h0, uG_e]; omega
    · rw [uG_n h0]; exact gc s hs
  · have hi : i < uG (g_c g) 2 c 2 := hi
    rw [uG_e] at hi
    show lOk (uG (g_k g) k q' i) (uG (g_L g) k R' i)
    by_cases hik : i = k
    · rw [hik, uG_e, uG_e]; exact ok
    · rw [uG_n hik, uG_n hik]; exact gl i (by omega)
  · rw [e _ _ (by omega) (by omega)]; exact u1
  · have hi : i < g_l g := hi
    rw [e _ _ (by omega) (by omega)]; exact u2 i hi
  · rw [e _ _ (by omega) (by omega)]; exact u3
  · rw [e _ _ (by omega) (by omega)]; exact u4
  · show _ = nI (uG (g_c g) 2 c s)
    by_cases h0 : s = 2
    · rw [h0, uG_e]; exact ec
    · rw [uG_n h0, e _ _ (by omega) (by omega)]; exact u5 s hs
  · have hi : i < g_c g 0 := hi
    exact (u6 i hi).kp (fun a j h1 h2 => e a j (by omega) (by omega))
  · have hi : i < g_c g 1 := hi
    exact (u7 i hi).kq (fun a j h1 h2 => e a j (by omega) (by omega))
  · have hi : i < uG (g_c g) 2 c 2 := hi
    rw [uG_e] at hi
    show vL (x + 1 + 40 + 3 * i) E1 (uG (g_k g) k q' i) (uG (g_L g) k R' i)
    by_cases hik : i = k
    · rw [hik, uG_e, uG_e, show x + 1 + 40 + 3 * k = x + 41 + 3 * k by omega]; exact vN'
    · rw [uG_n hik, uG_n hik]
      exact (u8 i (by omega)).kq (fun a j h1 h2 => e a j (by omega) (by omega))
  · rw [q 2 _ (by omega) (by omega) (by omega) (by omega)]; exact w1
  · have hi : i < g_l g := hi
    rw [q 1 _ (by omega) (by omega) (by omega) (by omega)]; exact w2 i hi
  · rw [q 3 _ (by omega) (by omega) (by omega) (by omega)]; exact w3
  · rw [q 4 _ (by omega) (by omega) (by omega) (by omega)]; exact w4
  · show _ = nI (uG (g_c g) 2 c s)
    by_cases h0 : s = 2
    · rw [h0, uG_e]; exact qc
    · rw [uG_n h0, q 5 _ (by omega) (by omega) (by omega) (by omega)]; exact w5 s hs
  · rw [q 6 _ (by omega) (by omega) (by omega) (by omega)]; exact w6 i hi p hp
  · rw [q 7 _ (by omega) (by omega) (by omega) (by omega)]; exact (w7 i hi).1
  · rw [q 7 _ (by omega) (by omega) (by omega) (by omega)]; exact (w7 i hi).2 p q1 q2
  · have hi : i < uG (g_c g) 2 c 2 := hi
    rw [uG_e] at hi
    show E2.1 (m + 8) (17 * (2 * 0 + i)) = nI (uG (g_k g) k q' i) ∧ ∀ p, 1 ≤ p → p < 17 → E2.1 (m + 8) (17 * (2 * 0 + i) + p) = uG (g_L g) k R' i p
    by_cases hik : i = k
    · rw [hik, uG_e, uG_e, show 17 * (2 * 0 + k) = 17 * k by omega]; exact ⟨q60, q6'⟩
    · rw [uG_n hik, uG_n hik, q6 _ (by omega)]
      refine ⟨(w8 i (by omega)).1, fun p q1 q2 => ?_⟩
      rw [q6 _ (by omega)]; exact (w8 i (by omega)).2 p q1 q2
end Text
