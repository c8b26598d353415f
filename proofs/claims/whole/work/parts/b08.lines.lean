/-! reading: the signs, full rows, the end of a line, on both sides -/
def FrL (r : Nat) (h h' : Hp) : Prop := h'.2 = h.2 ∧ ∀ a k, ¬ (r ≤ a ∧ a ≤ r + 21) → h'.1 a k = h.1 a k
theorem FrL.rf {r : Nat} {h : Hp} : FrL r h h := ⟨rfl, fun _ _ _ => rfl⟩
theorem FrL.tr {r : Nat} {h h' h'' : Hp} (q : FrL r h h') (q' : FrL r h' h'') : FrL r h h'' := ⟨q'.1.trans q.1, fun a k h1 => (q'.2 a k h1).trans (q.2 a k h1)⟩
theorem FrA.up {r : Nat} {h h' : Hp} (q : FrA r h h') : FrL r h h' := ⟨q.1, fun a k h1 => q.2 a k (by omega) (by omega)⟩
def RTl : List Nat := 9 :: RTa
section Signs
variable {K : Ly} {n r : Nat} {H : Hp}
theorem cnb_c {v : Nat} (hv : v ≤ 99) (h : H.1 r 10 = nI v) : f5_canBe K n r (nI 99) H = some ((if decide (1 ≤ v ∧ v ≤ 6) = true then 1 else 0), H) := by
  unfold f5_canBe
  rw [if_pos (show nI 99 = (99 : Int32) from rfl), h]
  have e1 : (nI v < (1 : Int32)) = (v < 1) := x_lt' (ab := 1) (by omega) (by omega)
  have e2 : ((6 : Int32) < nI v) = (6 < v) := x_lt' (aa := 6) (by omega) (by omega)
  simp only [e1, e2, decide_eq_true_eq]
  congr 2
  by_cases h1 : v < 1
  · rw [if_pos h1, if_neg (by omega)]
  · rw [if_neg h1]
    by_cases h2 : 6 < v
    · rw [if_pos h2, if_neg (by omega)]
    · rw [if_neg h2, if_pos (by omega)]
theorem cnb_d {v : Nat} (hv : v ≤ 99) (h : H.1 r 10 = nI v) : f5_canBe K n r (nI 100) H = some ((if decide (1 ≤ v ∧ v ≤ 9) = true then 1 else 0), H) := by
  unfold f5_canBe
  rw [if_neg (show ¬ nI 100 = (99 : Int32) by decide), if_pos (show nI 100 = (100 : Int32) from rfl), h]
  have e1 : (nI v < (1 : Int32)) = (v < 1) := x_lt' (ab := 1) (by omega) (by omega)
  have e2 : ((9 : Int32) < nI v) = (9 < v) := x_lt' (aa := 9) (by omega) (by omega)
  simp only [e1, e2, decide_eq_true_eq]
  congr 2
  by_cases h1 : v < 1
  · rw [if_pos h1, if_neg (by omega)]
  · rw [if_neg h1]
    by_cases h2 : 9 < v
    · rw [if_pos h2, if_neg (by omega)]
    · rw [if_neg h2, if_pos (by omega)]
theorem cnb_f {v : Nat} (hv : v ≤ 99) (h : H.1 r 10 = nI v) : f5_canBe K n r (nI 102) H = some ((if decide (v ≤ 99) = true then 1 else 0), H) := by
  unfold f5_canBe f5_canBe_J273
  rw [if_neg (show ¬ nI 102 = (99 : Int32) by decide), if_neg (show ¬ nI 102 = (100 : Int32) by decide), if_neg (show ¬ nI 102 = (101 : Int32) by decide), if_pos (show nI 102 = (102 : Int32) from rfl), h, if_neg (show ¬ nI v = (-1 : Int32) by rw [x_nm1 (by omega)]; exact fun hh => hh)]
  simp [hv]
theorem cnb_k {v : Nat} (hv : v ≤ 99) (h : H.1 r 10 = nI v) : f5_canBe K n r (nI 107) H = some ((if decide (v < 40) = true then 1 else 0), H) := by
  unfold f5_canBe
  rw [if_neg (show ¬ nI 107 = (99 : Int32) by decide), if_neg (show ¬ nI 107 = (100 : Int32) by decide), if_neg (show ¬ nI 107 = (101 : Int32) by decide), if_neg (show ¬ nI 107 = (102 : Int32) by decide), if_neg (show ¬ nI 107 = (103 : Int32) by decide), if_neg (show ¬ nI 107 = (104 : Int32) by decide), if_neg (show ¬ nI 107 = (105 : Int32) by decide), if_neg (show ¬ nI 107 = (106 : Int32) by decide), if_pos (show nI 107 = (107 : Int32) from rfl), h]
  have e1 : ((40 : Int32) ≤ nI v) = (40 ≤ v) := x_le (aa := 40) (by omega) (by omega)
  simp only [e1, decide_eq_true_eq]
  congr 2
  by_cases h1 : 40 ≤ v
  · rw [if_pos h1, if_neg (by omega)]
  · rw [if_neg h1, if_pos (by omega)]
theorem cnb_l {v : Nat} (hv : v ≤ 99) (h : H.1 r 10 = nI v) : f5_canBe K n r (nI 108) H = some ((if decide (1 ≤ v) = true then 1 else 0), H) := by
  unfold f5_canBe
  rw [if_neg (show ¬ nI 108 = (99 : Int32) by decide), if_neg (show ¬ nI 108 = (100 : Int32) by decide), if_neg (show ¬ nI 108 = (101 : Int32) by decide), if_neg (show ¬ nI 108 = (102 : Int32) by decide), if_neg (show ¬ nI 108 = (103 : Int32) by decide), if_neg (show ¬ nI 108 = (104 : Int32) by decide), if_neg (show ¬ nI 108 = (105 : Int32) by decide), if_neg (show ¬ nI 108 = (106 : Int32) by decide), if_neg (show ¬ nI 108 = (107 : Int32) by decide), if_pos (show nI 108 = (108 : Int32) from rfl), h]
  have e1 : (nI v < (1 : Int32)) = (v < 1) := x_lt' (ab := 1) (by omega) (by omega)
  simp only [e1, decide_eq_true_eq]
  congr 2
  by_cases h1 : v < 1
  · rw [if_pos h1, if_neg (by omega)]
  · rw [if_neg h1, if_pos (by omega)]
theorem cnb_m {v : Nat} {w : Int32} (hv : v ≤ 99) (h : H.1 r 10 = nI v) (hw : H.1 (r + 21) 0 = w) : f5_canBe K n r (nI 109) H = some ((if decide (v < 6 ∧ ¬ nI v = w) = true then 1 else 0), sI H r 11 (jmax (H.1 r 11) (nI v))) := by
  unfold f5_canBe
  rw [if_neg (show ¬ nI 109 = (99 : Int32) by decide), if_neg (show ¬ nI 109 = (100 : Int32) by decide), if_neg (show ¬ nI 109 = (101 : Int32) by decide), if_neg (show ¬ nI 109 = (102 : Int32) by decide), if_neg (show ¬ nI 109 = (103 : Int32) by decide), if_neg (show ¬ nI 109 = (104 : Int32) by decide), if_neg (show ¬ nI 109 = (105 : Int32) by decide), if_neg (show ¬ nI 109 = (106 : Int32) by decide), if_neg (show ¬ nI 109 = (107 : Int32) by decide), if_neg (show ¬ nI 109 = (108 : Int32) by decide), if_pos (show nI 109 = (109 : Int32) from rfl), x_lt, rI_n (by omega), h, show (0 : Int32).toNatClampNeg = 0 from rfl, rI_n (by omega), hw]
  have e1 : ((6 : Int32) ≤ nI v) = (6 ≤ v) := x_le (aa := 6) (by omega) (by omega)
  simp only [e1, decide_eq_true_eq]
  by_cases h1 : 6 ≤ v
  · rw [if_pos h1, if_neg (fun hh => by omega)]
  · rw [if_neg h1]
    by_cases h2 : nI v = w
    · rw [if_pos h2, if_neg (fun hh => hh.2 h2)]
    · rw [if_neg h2, if_pos ⟨by omega, h2⟩]
theorem cnb_n {v : Nat} (hv : v ≤ 99) (h : H.1 r 10 = nI v) : f5_canBe K n r (nI 110) H = some ((if decide (v < 6) = true then 1 else 0), sI H r 11 (jmax (H.1 r 11) (nI v))) := by
  unfold f5_canBe
  rw [if_neg (show ¬ nI 110 = (99 : Int32) by decide), if_neg (show ¬ nI 110 = (100 : Int32) by decide), if_neg (show ¬ nI 110 = (101 : Int32) by decide), if_neg (show ¬ nI 110 = (102 : Int32) by decide), if_neg (show ¬ nI 110 = (103 : Int32) by decide), if_neg (show ¬ nI 110 = (104 : Int32) by decide), if_neg (show ¬ nI 110 = (105 : Int32) by decide), if_neg (show ¬ nI 110 = (106 : Int32) by decide), if_neg (show ¬ nI 110 = (107 : Int32) by decide), if_neg (show ¬ nI 110 = (108 : Int32) by decide), if_neg (show ¬ nI 110 = (109 : Int32) by decide), if_pos (show nI 110 = (110 : Int32) from rfl), x_lt, rI_n (by omega), h]
  have e1 : ((6 : Int32) ≤ nI v) = (6 ≤ v) := x_le (aa := 6) (by omega) (by omega)
  simp only [e1, decide_eq_true_eq]
  by_cases h1 : 6 ≤ v
  · rw [if_pos h1, if_neg (by omega)]
  · rw [if_neg h1, if_pos (by omega)]
theorem cnb_r {v : Nat} (hv : v ≤ 99) (h : H.1 r 10 = nI v) : f5_canBe K n r (nI 114) H = some ((if decide (v ≤ 4) = true then 1 else 0), H) := by
  unfold f5_canBe
  rw [if_neg (show ¬ nI 114 = (99 : Int32) by decide), if_neg (show ¬ nI 114 = (100 : Int32) by decide), if_neg (show ¬ nI 114 = (101 : Int32) by decide), if_neg (show ¬ nI 114 = (102 : Int32) by decide), if_neg (show ¬ nI 114 = (103 : Int32) by decide), if_neg (show ¬ nI 114 = (104 : Int32) by decide), if_neg (show ¬ nI 114 = (105 : Int32) by decide), if_neg (show ¬ nI 114 = (106 : Int32) by decide), if_neg (show ¬ nI 114 = (107 : Int32) by decide), if_neg (show ¬ nI 114 = (108 : Int32) by decide), if_neg (show ¬ nI 114 = (109 : Int32) by decide), if_neg (show ¬ nI 114 = (110 : Int32) by decide), if_neg (show ¬ nI 114 = (111 : Int32) by decide), if_neg (show ¬ nI 114 = (112 : Int32) by decide), if_neg (show ¬ nI 114 = (113 : Int32) by decide), if_pos (show nI 114 = (114 : Int32) from rfl), h]
  have e1 : ((4 : Int32) < nI v) = (4 < v) := x_lt' (aa := 4) (by omega) (by omega)
  simp only [e1, decide_eq_true_eq]
  congr 2
  by_cases h1 : 4 < v
  · rw [if_pos h1, if_neg (by omega)]
  · rw [if_neg h1, if_pos (by omega)]
theorem cnb_t {v : Nat} (hv : v ≤ 99) (h : H.1 r 10 = nI v) : f5_canBe K n r (nI 116) H = some ((if decide (1 ≤ v ∧ v ≤ 20) = true then 1 else 0), H) := by
  unfold f5_canBe
  rw [if_neg (show ¬ nI 116 = (99 : Int32) by decide), if_neg (show ¬ nI 116 = (100 : Int32) by decide), if_neg (show ¬ nI 116 = (101 : Int32) by decide), if_neg (show ¬ nI 116 = (102 : Int32) by decide), if_neg (show ¬ nI 116 = (103 : Int32) by decide), if_neg (show ¬ nI 116 = (104 : Int32) by decide), if_neg (show ¬ nI 116 = (105 : Int32) by decide), if_neg (show ¬ nI 116 = (106 : Int32) by decide), if_neg (show ¬ nI 116 = (107 : Int32) by decide), if_neg (show ¬ nI 116 = (108 : Int32) by decide), if_neg (show ¬ nI 116 = (109 : Int32) by decide), if_neg (show ¬ nI 116 = (110 : Int32) by decide), if_neg (show ¬ nI 116 = (111 : Int32) by decide), if_neg (show ¬ nI 116 = (112 : Int32) by decide), if_neg (show ¬ nI 116 = (113 : Int32) by decide), if_neg (show ¬ nI 116 = (114 : Int32) by decide), if_neg (show ¬ nI 116 = (115 : Int32) by decide), if_pos (show nI 116 = (116 : Int32) from rfl), h]
  have e1 : (nI v < (1 : Int32)) = (v < 1) := x_lt' (ab := 1) (by omega) (by omega)
  have e2 : ((20 : Int32) < nI v) = (20 < v) := x_lt' (aa := 20) (by omega) (by omega)
  simp only [e1, e2, decide_eq_true_eq]
  congr 2
  by_cases h1 : v < 1
  · rw [if_pos h1, if_neg (by omega)]
  · rw [if_neg h1]
    by_cases h2 : 20 < v
    · rw [if_pos h2, if_neg (by omega)]
    · rw [if_neg h2, if_pos (by omega)]
theorem in_b {v lo hi : Nat} (hv : v ≤ 99) (h1 : lo ≤ 100) (h2 : hi ≤ 100) : (decide (lo ≤ v ∧ v ≤ hi) = true) ↔ ¬ f11_in (nI v) (nI lo) (nI hi) = 0 := by
  rw [m_inR (by omega) (by omega) (by omega), decide_eq_true_eq]
  by_cases hc : lo ≤ v ∧ v ≤ hi
  · rw [if_pos hc]; exact ⟨fun _ => b_10, fun _ => hc⟩
  · rw [if_neg hc]; exact ⟨fun hh => absurd hh hc, fun hh => absurd rfl hh⟩
end Signs
section Lines
variable {K1 K2 : Ly} {n r u m l a b kd s f p : Nat} {h1 h2 h1' h2' : Hp} {t : Nat → Int32}
theorem both_full {A B : Prop} [Decidable A] [Decidable B] (hB : b < 2147483648) (v : FL r m s f p b h1 h2) (hAB : f = 0 → (A ↔ B)) : ∃ f' p' h1' h2', (if A then f5_mark K1 n r (3 : Int32) (nI b) h1 else some h1) = some h1' ∧ (if B then f11_addsFault K2 n m (3 : Int32) (nI b) h2 else some h2) = some h2' ∧ FL r m s f' p' (b + 1) h1' h2' ∧ (f' = 0 → f = 0 ∧ ¬ A) ∧ h1'.2 = h1.2 ∧ (∀ a k, ¬ (a = r ∧ (k = 12 ∨ k = 13)) → h1'.1 a k = h1.1 a k) ∧ ChM [116, 117] m h2 h2' := by
  have st : FL r m s f p (b + 1) h1 h2 := by
    obtain ⟨v1, v2, v3, v4, v5, v6, v7⟩ := v
    exact ⟨v1, v2, v3, v4, v5, v6, fun h0 => ⟨(v7 h0).1, (v7 h0).2.1, by have := (v7 h0).2.2; omega⟩⟩
  by_cases h0 : f = 0
  · by_cases hA : A
    · obtain ⟨f', p', h1', h2', g1, g2, g3, g4, g5, g6, g7⟩ := both_mark (K1 := K1) (K2 := K2) (n := n) (q := 3) (Or.inr rfl) hB v
      exact ⟨f', p', h1', h2', by rw [if_pos hA]; exact g1, by rw [if_pos ((hAB h0).mp hA)]; exact g2, g3, fun hh => absurd hh g4, g5, g6, g7⟩
    · exact ⟨f, p, h1, h2, by rw [if_neg hA], by rw [if_neg (fun hh => hA ((hAB h0).mpr hh))], st, fun hh => ⟨hh, hA⟩, rfl, fun _ _ _ => rfl, ChM.rf⟩
  · obtain ⟨v1, v2, v3, v4, v5, v6, v7⟩ := id v
    obtain ⟨w1, w2, w3⟩ := v7 h0
    have z : ¬ nI f = (0 : Int32) := nI_ne0 (by omega) (by omega)
    have c1 : f5_mark K1 n r (3 : Int32) (nI b) h1 = some h1 := by
      unfold f5_mark
      rw [v4, if_neg z]
    have c2 : f11_addsFault K2 n m (3 : Int32) (nI b) h2 = some h2 := by
      unfold f11_addsFault
      rw [v5, if_neg z, w2, if_neg (nI_nlt (by omega) (by omega)), if_neg (show ¬ nI b = nI p by rw [x_eq (by omega) (by omega)]; omega)]
    exact ⟨f, p, h1, h2, by rw [c1, ite_self], by rw [c2, ite_self], st, fun hh => absurd hh h0, rfl, fun _ _ _ => rfl, ChM.rf⟩
theorem LnS.k2 {R : List Nat} (L : LnS r u m t l a b kd s f p h1 h2) (q : ChM R m h2 h2') (hd : dj [1, 109, 110, 111, 112, 113, 114, 116, 117] R = true) : LnS r u m t l a b kd s f p h1 h2' := by
  obtain ⟨⟨⟨v1, v2, v3, v4, v5, v6, v7, v8, v9⟩, t9, t11, hba, k4, t8, t12, tz, tl, tw, tv⟩, ⟨f1, f2, f3, f4, f5, f6, f7⟩⟩ := L
  refine ⟨⟨⟨v1, v2, v3, v4, v5, by rw [q.f (dj_n hd (by simp))]; exact v6, fun i hi => by rw [q.a (by omega) (dj_n hd (by simp))]; exact v7 i hi, v8, by rw [q.f (dj_n hd (by simp))]; exact v9⟩, t9, by rw [q.f (dj_n hd (by simp))]; exact t11, hba, k4, t8, by rw [q.f (dj_n hd (by simp))]; exact t12, tz, tl, fun hk => ?_, fun hk => ?_⟩, ⟨f1, f2, f3, f4, by rw [q.f (dj_n hd (by simp))]; exact f5, f6, fun h0 => by rw [q.f (dj_n hd (by simp))]; exact f7 h0⟩⟩
  · rw [(q m 14 (by rw [rm_f]; exact dj_n hd (by simp))).2.1]; exact tw hk
  · rw [q.f (dj_n hd (by simp))]; exact tv hk
theorem LnS.k1 (L : LnS r u m t l a b kd s f p h1 h2) (e2 : h1'.2 = h1.2) (e : ∀ a k, ¬ (r + 1 ≤ a ∧ a ≤ r + 20) → h1'.1 a k = h1.1 a k) (hu : ¬ (r + 1 ≤ u ∧ u ≤ r + 20)) : LnS r u m t l a b kd s f p h1' h2 := by
  obtain ⟨⟨⟨v1, v2, v3, v4, v5, v6, v7, v8, v9⟩, t9, t11, hba, k4, t8, t12, tz, tl, tw, tv⟩, ⟨f1, f2, f3, f4, f5, f6, f7⟩⟩ := L
  have er : ∀ k, h1'.1 r k = h1.1 r k := fun k => e r k (by omega)
  exact ⟨⟨⟨v1, v2, v3, by rw [e2]; exact v4, by rw [er]; exact v5, v6, fun i hi => by rw [e u i hu]; exact v7 i hi, by rw [er]; exact v8, v9⟩, by rw [er]; exact t9, t11, hba, k4, by rw [er]; exact t8, t12, tz, tl, fun hk => by rw [er]; exact tw hk, fun hk => by rw [er]; exact tv hk⟩, ⟨by rw [er]; exact f1, f2, f3, by rw [er]; exact f4, f5, fun h0 => by rw [er]; exact f6 h0, fun h0 => by rw [er]; exact f7 h0⟩⟩
/-- both sides come to the end of a line -/
theorem both_le (ku : K1 u = some (.inr (1, 600))) (ne : r ≠ u) (nu : u ≠ r + 21) (hn : 5000 ≤ n) (L : LnS r u m t l a b kd s f p h1 h2) {vb S : Int32} (r2 : Int32 → Hp → Option (Int32 × Hp)) :
    (∃ h1' h2', f5_readLine_J141 K1 n r vb h1 = some h1' ∧ f11_allLines_J77 K2 n r2 m S 1 h2 = r2 0 h2' ∧ Rfs r m b h1' h2' ∧ FrA r h1 h1' ∧ ChM RTa m h2 h2') ∨
    (∃ a' b' kd' h1' h2', f5_readLine_J141 K1 n r vb h1 = (if f = 0 then (bp (f5_tell K1 n r vb h1') fun h22 => some h22) else some h1') ∧ f11_allLines_J77 K2 n r2 m S 1 h2 = r2 1 h2' ∧ LnS r u m t l a' b' kd' s f p h1' h2' ∧ b < b' ∧ FrC r h1 h1' ∧ ChM RTk m h2 h2') := by
  obtain ⟨T, F⟩ := L
  obtain ⟨V, t9, t11, hba, k4, t8, t12, tz, tl, tw, tv⟩ := id T
  have kk : (nI kd = (3 : Int32)) = (kd = 3) := x_eq (ab := 3) (by omega) (by omega)
  unfold f5_readLine_J141 f11_allLines_J77
  rw [t8, t12, if_neg b_10]
  simp only [kk, mk_4 k4]
  by_cases h3 : kd = 3
  · refine Or.inr ?_
    obtain ⟨a', b', kd', p1, p2, g1, g2, g3, g4, g5, g6⟩ := both_nx (K1 := K1) (K2 := K2) (p1 := h1) (p2 := h2) ku ne hn T (by omega) FrA.rf rfl ChM.rf rfl nu F (by omega)
    have e12 : p1.1 r 12 = nI f := g4.2.2.2.2.1
    have z0 : (nI f = (0 : Int32)) = (f = 0) := x_eq (ab := 0) (by have := F.2.1; omega) (by omega)
    refine ⟨a', b', kd', p1, p2, ?_, ?_, g4, g1, g5, g6⟩
    · rw [if_pos h3, g2, x_bp, e12]
      simp only [z0]
    · rw [if_pos h3, f11_allLines_J95, if_neg b_10, g3, x_bp]
  · refine Or.inl ?_
    obtain ⟨p1, p2, g1, g2, g3, g4, g5⟩ := both_ref (K1 := K1) (K2 := K2) (n := n) T
    refine ⟨p1, p2, ?_, ?_, g3, g4, g5⟩
    · rw [if_neg h3, g1, x_bp]
    · rw [if_neg h3, g2, x_bd, f11_allLines_J95, if_pos rfl]
theorem m_keepRow {c fr w mo q : Nat} (hc : c < 122) (hcf : c < fr) (hw : w ≤ 4) (hr : fr + w * mo ≤ 122) (hq : q ≤ mo) (hmo : mo ≤ 40) (hn : 5000 ≤ n) (h : Hp) (e : h.1 (m + 9) c = nI q) : ∃ h', f11_keepRow K2 n m (nI c) (nI fr) (nI w) (nI mo) h = some h' ∧ ChM [9] m h h' ∧ h'.1 (m + 9) c = nI (min mo (q + 1)) ∧ (q < mo → ∀ i, i < w → h'.1 (m + 9) (fr + w * q + i) = h.1 (m + 10) i) ∧ (∀ p, p ≠ c → ¬ (q < mo ∧ fr + w * q ≤ p ∧ p < fr + w * q + w) → h'.1 (m + 9) p = h.1 (m + 9) p) := by
  have les : ∀ (H : Hp), f11_keepRow_J51 K2 n m (nI c) (nI mo) (nI q) H = some (sI H (m + 9) c (nI (min mo (q + 1)))) := fun H => by
    unfold f11_keepRow_J51 f11_lesser
    rw [x_in hc (by omega), x_gd, x_lt, x_cl (by omega), nI_1]
    simp only [x_le (show q + 1 < 2147483648 by omega) (show mo < 2147483648 by omega)]
    by_cases h1 : q + 1 ≤ mo
    · rw [if_pos h1, show min mo (q + 1) = q + 1 by omega]
    · rw [if_neg h1, show min mo (q + 1) = mo by omega]
  unfold f11_keepRow
  rw [x_in hc (by omega), x_gd, x_lt, x_cl (by omega), e]
  by_cases hqm : q < mo
  · have wq : w * q + w ≤ w * mo := by
      have := Nat.mul_le_mul_left w (show q + 1 ≤ mo by omega)
      rw [Nat.mul_add, Nat.mul_one] at this
      exact this
    have go : ∀ (d i fu : Nat) (h : Hp), i + d = w → d < fu → ∃ h', f11_keepRow_L11 K2 n m (nI c) (nI fr) (nI w) (nI mo) (nI q) fu (nI i) h = some h' ∧ ChM [9] m h h' ∧ h'.1 (m + 9) c = nI (min mo (q + 1)) ∧ (∀ j, i ≤ j → j < w → h'.1 (m + 9) (fr + w * q + j) = h.1 (m + 10) j) ∧ (∀ p, p ≠ c → ¬ (fr + w * q + i ≤ p ∧ p < fr + w * q + w) → h'.1 (m + 9) p = h.1 (m + 9) p) := by
      intro d
      induction d with
      | zero =>
        intro i fu h hi hf
        obtain ⟨fu, rfl⟩ : ∃ g, fu = g + 1 := ⟨fu - 1, by omega⟩
        have e1 : nI w ≤ nI i := nI_le (by omega) (by omega)
        exact ⟨_, by rw [f11_keepRow_L11, if_pos e1, les], ChM.A (by omega) (by simp) ChM.rf, rI_e, fun j h1 h2 => by omega, fun p h1 h2 => by rw [rI_n (by omega)]⟩
      | succ d ih =>
        intro i fu h hi hf
        obtain ⟨fu, rfl⟩ : ∃ g, fu = g + 1 := ⟨fu - 1, by omega⟩
        have e1 : ¬ nI w ≤ nI i := nI_ge (by omega) (by omega)
        have e2 : ¬ nI mo ≤ nI q := nI_ge hqm (by omega)
        have e3 : nI fr + nI w * nI q + nI i = nI (fr + w * q + i) := by rw [pk_mul, nI_add, nI_add]
        obtain ⟨h', g1, g2, g3, g4, g5⟩ := ih (i + 1) fu (sI h (m + 9) (fr + w * q + i) (h.1 (m + 10) i)) (by omega) (by omega)
        refine ⟨h', ?_, (ChM.A (by omega) (by simp) ChM.rf).tr g2, g3, fun j h1 h2 => ?_, fun p h1 h2 => ?_⟩
        · rw [f11_keepRow_L11, if_neg e1, if_neg e2, x_in (show i < 4 by omega) (by omega), x_gd, e3, x_in (show fr + w * q + i < 122 by omega) (by omega), x_gd, x_lt, x_lt, nI_1, x_cl (by omega), x_cl (by omega)]
          exact g1
        · by_cases hj : j = i
          · subst hj; rw [g5 _ (by omega) (by omega), rI_e]
          · rw [g4 j (by omega) h2, rI_n (by omega)]
        · rw [g5 p h1 (by omega), rI_n (by omega)]
    obtain ⟨h', g1, g2, g3, g4, g5⟩ := go w 0 n h (by omega) (by omega)
    exact ⟨h', g1, g2, g3, fun _ i hi => g4 i (by omega) hi, fun p h1 h2 => g5 p h1 (by omega)⟩
  · have e2 : nI mo ≤ nI q := nI_le (by omega) (by omega)
    refine ⟨_, ?_, ChM.A (by omega) (by simp) ChM.rf, rI_e, fun hh => absurd hh hqm, fun p h1 h2 => by rw [rI_n (by omega)]⟩
    obtain ⟨n', rfl⟩ : ∃ g, n = g + 1 := ⟨n - 1, by omega⟩
    rw [f11_keepRow_L11, les, if_pos e2, ite_self]
end Lines
