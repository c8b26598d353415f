/-! reading: all lines of a text -/
section Loop
variable {K1 K2 : Ly} {n r u m l s : Nat} {t : Nat → Int32} {D : Nat → Nat → Hp → Hp → Prop}
/-- how a text is read to its end -/
def RdO (K : Ly) (n r u m : Nat) (t : Nat → Int32) (l s : Nat) (D : Nat → Nat → Hp → Hp → Prop) (h1 h2 : Hp) (E1 : Option Hp) (E2 : Option (Int32 × Hp)) : Prop :=
  (∃ b' h1' h2', E1 = f5_read_J99 K n r h1' ∧ E2 = some (0, h2') ∧ Rfs r m b' h1' h2' ∧ FrL r h1 h1' ∧ ChM RTl m h2 h2') ∨
  (∃ f' p' hi' h1' h2', E1 = f5_read_J99 K n r h1' ∧ E2 = some (1, h2') ∧ LnS r u m t l l l 0 s f' p' h1' h2' ∧ HN r m hi' h1' h2' ∧ D hi' f' h1' h2' ∧ FrL r h1 h1' ∧ ChM RTl m h2 h2')
theorem RdO.pre {h1 h2 h1a h2a : Hp} {E1 : Option Hp} {E2 : Option (Int32 × Hp)} (v : RdO K1 n r u m t l s D h1a h2a E1 E2) (q1 : FrL r h1 h1a) (q2 : ChM RTl m h2 h2a) : RdO K1 n r u m t l s D h1 h2 E1 E2 := by
  rcases v with ⟨b', e1, e2, e3, e4, e5, e6, e7⟩ | ⟨f', p', hi', e1, e2, e3, e4, e5, e6, e7, e8, e9⟩
  · exact Or.inl ⟨b', e1, e2, e3, e4, e5, q1.tr e6, q2.tr e7⟩
  · exact Or.inr ⟨f', p', hi', e1, e2, e3, e4, e5, e6, e7, q1.tr e8, q2.tr e9⟩
theorem both_lines (hn : 5000 ≤ n) (hs : s < 3) (hl : ∀ (a b kd f p hi : Nat) (h1 h2 : Hp) (r2 : Int32 → Hp → Option (Int32 × Hp)), LnS r u m t l a b kd s f p h1 h2 → kd ≠ 0 → HN r m hi h1 h2 → D hi f h1 h2 → LO r u m t l s b D r2 h1 h2 (f5_readLine K1 n r h1) (f11_allLines_J34 K2 n r2 m (nI s) (nI b) (mw h2 m) h2)) :
    ∀ (k a b kd f p hi x fu fu' : Nat) (h1 h2 : Hp), l - b < k → k < fu → k < fu' → x ≤ b → LnS r u m t l a b kd s f p h1 h2 → HN r m hi h1 h2 → D hi f h1 h2 → RdO K1 n r u m t l s D h1 h2 (f5_read_L65 K1 n r fu (nI x) h1) (f11_allLines_L2 K2 n m (nI s) fu' 1 h2) := by
  intro k
  induction k with
  | zero => intro a b kd f p hi x fu fu' h1 h2 hk; omega
  | succ k ih =>
    intro a b kd f p hi x fu fu' h1 h2 hk hf hf' hx L hh d
    obtain ⟨fu, rfl⟩ : ∃ g, fu = g + 1 := ⟨fu - 1, by omega⟩
    obtain ⟨fu', rfl⟩ : ∃ g, fu' = g + 1 := ⟨fu' - 1, by omega⟩
    obtain ⟨V, t9, t11, hba, k4, t8, t12, tz, tl, tw, tv⟩ := id L.1
    have l6 := V.1
    have al := V.2.1
    have v5 : h1.1 r 5 = nI l := V.2.2.2.2.1
    have f12 : h1.1 r 12 = nI f := L.2.2.2.2.1
    have fne := L.2.2.2.1
    have fle := L.2.2.1
    have kz : (nI kd = (0 : Int32)) = (kd = 0) := x_eq (ab := 0) (by omega) (by omega)
    by_cases hk0 : kd = 0
    · have bl := tz hk0
      have : a = l := by omega
      subst hk0
      subst bl
      subst this
      refine Or.inr ⟨f, p, hi, h1, h2, ?_, ?_, L, hh, d, FrL.rf, ChM.rf⟩
      · rw [f5_read_L65, t8, if_pos (show nI 0 = (0 : Int32) from rfl), ite_self]
      · rw [f11_allLines_L2, if_neg b_10, t12, if_pos (show mk 0 = (0 : Int32) from rfl), show isB (1 : Int32) = true by decide, x_gd]
    · have hlt := tl hk0
      have e1 : ¬ nI l ≤ nI x := nI_ge (by omega) (by omega)
      have e2 : ¬ nI kd = (0 : Int32) := by rw [kz]; exact hk0
      have e3 : ¬ nI f = (1 : Int32) := by rw [l_1, x_eq (by omega) (by omega)]; exact fne
      have e4 : ¬ mk kd = (0 : Int32) := by rw [mk_0 k4]; exact hk0
      have cs : f5_read_L65 K1 n r (fu + 1) (nI x) h1 = bp (f5_readLine K1 n r h1) fun h18 => f5_read_L65 K1 n r fu (nI (x + 1)) h18 := by
        rw [f5_read_L65, v5, if_neg e1, t8, if_neg e2, f12, if_neg e3]
        simp only [x_lt, nI_1]
      have ms : f11_allLines_L2 K2 n m (nI s) (fu' + 1) 1 h2 = f11_allLines_J34 K2 n (f11_allLines_L2 K2 n m (nI s) fu') m (nI s) (nI b) (mw h2 m) h2 := by
        rw [f11_allLines_L2, if_neg b_10, t12, if_neg e4, x_lt, t11, ← t12]; rfl
      rw [cs, ms]
      rcases hl a b kd f p hi h1 h2 (f11_allLines_L2 K2 n m (nI s) fu') L hk0 hh d with ⟨b', p1, p2, w1, w2, w3, w4, w5⟩ | ⟨a', b', kd', f', p', hi', p1, p2, w1, w2, w3, w4, w5, w6, w7, w8⟩
      · obtain ⟨fu, rfl⟩ : ∃ g, fu = g + 1 := ⟨fu - 1, by omega⟩
        obtain ⟨fu', rfl⟩ : ∃ g, fu' = g + 1 := ⟨fu' - 1, by omega⟩
        refine Or.inl ⟨b', p1, p2, ?_, ?_, w3, w4, w5⟩
        · rw [w1, x_bp, f5_read_L65, w3.1, if_pos rfl, ite_self, ite_self]
        · rw [w2, f11_allLines_L2, if_pos rfl, show isB (0 : Int32) = true by decide, x_gd]
      · rw [w1, x_bp, w2]
        have q1 : l - b' < k := by clear tz tl tw tv kz e2 e4 hk0 k4; omega
        have q2 : k < fu := by clear tz tl tw tv kz e2 e4 hk0 k4; omega
        have q3 : k < fu' := by clear tz tl tw tv kz e2 e4 hk0 k4; omega
        have q4 : x + 1 ≤ b' := by clear tz tl tw tv kz e2 e4 hk0 k4; omega
        exact (ih a' b' kd' f' p' hi' (x + 1) fu fu' p1 p2 q1 q2 q3 q4 w3 w5 w6).pre w7 w8
end Loop
section Loops
variable {K1 K2 : Ly} {n r u m l a b kd f p hi x : Nat} {h1 h2 : Hp} {t : Nat → Int32}
theorem lines_0 (ku : K1 u = some (.inr (1, 600))) (ne : r ≠ u) (nu : u ≠ r + 21) (hu : ¬ (r + 1 ≤ u ∧ u ≤ r + 20)) (hn : 5000 ≤ n) (L : LnS r u m t l a b kd 0 f p h1 h2) (hh : HN r m hi h1 h2) (D : NGn r m hi f h1 h2) : RdO K1 n r u m t l 0 (fun hi f => NGn r m hi f) h1 h2 (f5_read_L65 K1 n r n (nI 0) h1) (f11_allLines_L2 K2 n m (nI 0) n 1 h2) := by
  have l6 := L.1.1.1
  refine both_lines (K1 := K1) (K2 := K2) hn (by omega) (fun a b kd f p hi h1 h2 r2 L k0 hh d => ?_) (l - b + 1) a b kd f p hi 0 n n h1 h2 (by omega) (by omega) (by omega) (by omega) L hh D
  have := net_line (K1 := K1) (K2 := K2) ku ne nu hu hn L k0 hh d r2
  unfold f11_allLines_J34
  rw [x_lt, if_pos (show nI 0 = (0 : Int32) from rfl)]
  exact this
theorem lines_1 (ku : K1 u = some (.inr (1, 600))) (ne : r ≠ u) (nu : u ≠ r + 21) (hu : ¬ (r + 1 ≤ u ∧ u ≤ r + 20)) (hn : 5000 ≤ n) (L : LnS r u m t l a b kd 1 f p h1 h2) (hh : HN r m hi h1 h2) (D : RGn r m f h1 h2) : RdO K1 n r u m t l 1 (fun _ f => RGn r m f) h1 h2 (f5_read_L65 K1 n r n (nI 0) h1) (f11_allLines_L2 K2 n m (nI 1) n 1 h2) := by
  have l6 := L.1.1.1
  refine both_lines (K1 := K1) (K2 := K2) hn (by omega) (fun a b kd f p hi h1 h2 r2 L k0 hh d => ?_) (l - b + 1) a b kd f p hi 0 n n h1 h2 (by omega) (by omega) (by omega) (by omega) L hh D
  have := run_line (K1 := K1) (K2 := K2) ku ne nu hu hn L k0 hh d r2
  unfold f11_allLines_J34
  rw [x_lt, if_neg (show ¬ nI 1 = (0 : Int32) by decide), if_pos (show nI 1 = (1 : Int32) from rfl)]
  exact this
theorem lines_2 (ku : K1 u = some (.inr (1, 600))) (ne : r ≠ u) (nu : u ≠ r + 21) (hu : ¬ (r + 1 ≤ u ∧ u ≤ r + 20)) (hn : 5000 ≤ n) (L : LnS r u m t l a b kd 2 f p h1 h2) (hh : HN r m hi h1 h2) (D : LG r m f h1 h2) : RdO K1 n r u m t l 2 (fun _ f => LG r m f) h1 h2 (f5_read_L65 K1 n r n (nI 0) h1) (f11_allLines_L2 K2 n m (nI 2) n 1 h2) := by
  have l6 := L.1.1.1
  refine both_lines (K1 := K1) (K2 := K2) hn (by omega) (fun a b kd f p hi h1 h2 r2 L k0 hh d => ?_) (l - b + 1) a b kd f p hi 0 n n h1 h2 (by omega) (by omega) (by omega) (by omega) L hh D
  have := log_line (K1 := K1) (K2 := K2) ku ne nu hu hn L k0 hh d r2
  unfold f11_allLines_J34
  rw [x_lt, if_neg (show ¬ nI 2 = (0 : Int32) by decide), if_neg (show ¬ nI 2 = (1 : Int32) by decide)]
  exact this
end Loops
