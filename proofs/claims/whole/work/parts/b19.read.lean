/-! reading: from the tape to what is told -/
def N0' (p : Nat) : Nat := if p = 0 then 3 else if p = 1 then 20 else if 5 ≤ p ∧ p ≤ 10 then 2 else 0
theorem N0_P : nP N0' 0 := by
  refine ⟨by decide, by decide, by decide, by decide, by decide, fun i hi => ?_, fun l hl => absurd hl (Nat.not_lt_zero l), fun l hl => absurd hl (Nat.not_lt_zero l), fun k hk => absurd hk (Nat.not_lt_zero k), fun k hk => absurd hk (Nat.not_lt_zero k)⟩
  unfold N0'
  rw [if_neg (by omega), if_neg (by omega), if_pos (by omega)]; omega
theorem N0_lk (i : Nat) : lk0 N0' i = none := rfl
section Read
variable {K1 K2 : Ly} {n r u m l s : Nat} {h1 h2 : Hp} {t : Nat → Int32}
theorem c_clear {o : Nat} {h : Hp} (hn : 5000 ≤ n) : ∃ h', f2_clear K1 n o h = some h' ∧ h'.2 = h.2 ∧ (∀ a k, ¬ (o ≤ a ∧ a < o + 13) → h'.1 a k = h.1 a k) ∧ vN o h' N0' := by
  obtain ⟨p1, a1, a2, a3, a4⟩ := fillI (K := K1) (n := n) (a := o + 1) (len := 6) (x := 2) (by omega) 6 0 n (sI (sI (sI (sI (sI h o 0 3) o 1 20) o 2 0) o 3 0) o 4 0) (by omega) (by omega)
  obtain ⟨p2, b1, b2, b3, b4⟩ := fillI (K := K1) (n := n) (a := o + 5) (len := 36) (x := -1) (by omega) 36 0 n p1 (by omega) (by omega)
  refine ⟨p2, ?_, by rw [b4, a4]; rfl, fun a k ha => ?_, fun k hk => ?_, fun i hi => ?_, fun l hl => absurd hl (Nat.not_lt_zero l), fun i hi => ?_, fun k hk => absurd hk (Nat.not_lt_zero k), fun k hk => absurd hk (Nat.not_lt_zero k)⟩
  · have a1 : fJArrays_fill_IIV_L5 K1 n 6 (o + 1) 2 (Int32.ofNat 6) n 0 (sI (sI (sI (sI (sI h o 0 3) o 1 20) o 2 0) o 3 0) o 4 0) = some p1 := a1
    have b1 : fJArrays_fill_IIV_L5 K1 n 36 (o + 5) (-1) (Int32.ofNat 36) n 0 p1 = some p2 := b1
    unfold f2_clear fJArrays_fill_IIV
    rw [x_lt, x_lt, x_lt, x_lt, x_lt, x_lt, a1, x_bp, x_lt, b1, x_bp]
  · rw [b2 a k (by omega), a2 a k (by omega), rI_n (by omega), rI_n (by omega), rI_n (by omega), rI_n (by omega), rI_n (by omega)]
  · rw [b2 _ _ (by omega), a2 _ _ (by omega)]
    rcases (show k = 0 ∨ k = 1 ∨ k = 2 ∨ k = 3 ∨ k = 4 by omega) with rfl | rfl | rfl | rfl | rfl
    · rw [rI_n (by omega), rI_n (by omega), rI_n (by omega), rI_n (by omega), rI_e]; rfl
    · rw [rI_n (by omega), rI_n (by omega), rI_n (by omega), rI_e]; rfl
    · rw [rI_n (by omega), rI_n (by omega), rI_e]; rfl
    · rw [rI_n (by omega), rI_e]; rfl
    · rw [rI_e]; rfl
  · rw [b2 _ _ (by omega), a3 i (by omega) hi]
    unfold N0'
    rw [if_neg (by omega), if_neg (by omega), if_pos (by omega)]; rfl
  · rw [b3 i (by omega) hi, N0_lk]; rfl
/-- the row that the reference begins with -/
def row0 (s p : Nat) : Int32 := if s = 0 then nI (N0' p) else 0
theorem m_clear {S : Int32} (hS : S = nI s) (hs : s < 3) : ∀ (d i fu : Nat) (h : Hp), i + d = 122 → d < fu → ∃ h' fu', 0 < fu' ∧ f11_readText_L2 K2 n m S fu (nI i) h = f11_readText_L2 K2 n m S fu' (nI 122) h' ∧ ChM [9] m h h' ∧ (∀ p, p < i → h'.1 (m + 9) p = h.1 (m + 9) p) ∧ ∀ p, i ≤ p → p < 122 → h'.1 (m + 9) p = row0 s p := by
  intro d
  induction d with
  | zero =>
    intro i fu h hi hf
    exact ⟨h, fu, by omega, by rw [show i = 122 by omega], ChM.rf, fun _ _ => rfl, fun p h1 h2 => by omega⟩
  | succ d ih =>
    intro i fu h hi hf
    obtain ⟨fu, rfl⟩ : ∃ g, fu = g + 1 := ⟨fu - 1, by omega⟩
    have e1 : ¬ (122 : Int32) ≤ nI i := by rw [l_122]; exact nI_ge (by omega) (by omega)
    have s0 : (S = (0 : Int32)) = (s = 0) := by rw [hS]; exact x_eq (ab := 0) (by omega) (by omega)
    have i0 : (nI i = (0 : Int32)) = (i = 0) := x_eq (ab := 0) (by omega) (by omega)
    have i1 : (nI i = (1 : Int32)) = (i = 1) := x_eq (ab := 1) (by omega) (by omega)
    have in5 : f11_in (nI i) (5 : Int32) (10 : Int32) = if 5 ≤ i ∧ i ≤ 10 then 1 else 0 := m_inR (lo := 5) (hi := 10) (by omega) (by omega) (by omega)
    have ev : (if S = 0 then (if nI i = 0 then (3 : Int32) else (if nI i = (1 : Int32) then (20 : Int32) else (if (f11_in (nI i) (5 : Int32) (10 : Int32)) = 0 then (0 : Int32) else (2 : Int32)))) else (0 : Int32)) = row0 s i := by
      rw [in5]
      unfold row0 N0'
      simp only [s0, i0, i1]
      by_cases z : s = 0
      · rw [if_pos z, if_pos z]
        by_cases z0 : i = 0
        · rw [if_pos z0, if_pos z0]; rfl
        · rw [if_neg z0, if_neg z0]
          by_cases z1 : i = 1
          · rw [if_pos z1, if_pos z1]; rfl
          · rw [if_neg z1, if_neg z1]
            by_cases z5 : 5 ≤ i ∧ i ≤ 10
            · rw [if_pos z5, if_pos z5, if_neg b_10]; rfl
            · rw [if_neg z5, if_neg z5, if_pos rfl]; rfl
      · rw [if_neg z, if_neg z]
    obtain ⟨h', fu', g0, g1, g2, g3, g4⟩ := ih (i + 1) fu (sI h (m + 9) i (row0 s i)) (by omega) (by omega)
    refine ⟨h', fu', g0, ?_, (ChM.A (by omega) (by simp) ChM.rf).tr g2, fun p hp => by rw [g3 p (by omega), rI_n (by omega)], fun p h1 h2 => ?_⟩
    · rw [f11_readText_L2, if_neg e1, f11_readText_J54, x_in (show i < 122 by omega) (by omega), x_gd, x_lt, x_lt, nI_1, x_cl (by omega), ev]
      exact g1
    · by_cases hpi : p = i
      · rw [hpi, g3 i (by omega), rI_e]
      · exact g4 p (by omega) h2
/-- what a text without a fault told -/
def Ctn (r m s : Nat) (h1 h2 : Hp) : Prop :=
  (s = 0 ∧ ∃ N, vN (r + 1) h1 N ∧ (∀ p, p < 122 → h2.1 (m + 9) p = nI (N p)) ∧ nOk N) ∨
  (s = 1 ∧ ∃ q, h2.1 (m + 9) 0 = nI q ∧ vR (r + 14) h1 q (fun p => h2.1 (m + 9) p) ∧ rOk q (fun p => h2.1 (m + 9) p)) ∨
  (s = 2 ∧ ∃ q, h2.1 (m + 9) 0 = nI q ∧ vL (r + 18) h1 q (fun p => h2.1 (m + 9) p) ∧ lOk q (fun p => h2.1 (m + 9) p))
def RTr : List Nat := 3 :: 4 :: RTl
/-- the reference's last words on a text -/
theorem m_last {y F Pl : Int32} {H : Hp} (hF : F = if y = 0 then 1 else H.1 m 16) (hP : Pl = if y = 0 then H.1 m 15 else (if H.1 m 16 ≤ 0 then -1 else H.1 m 17)) : f11_readText_J123 K2 n m y H = some ((if F = 0 then 1 else 0), sI (sI H (m + 3) 0 F) (m + 4) 0 Pl) := by
  unfold f11_readText_J123 f11_readText_J140 f11_readText_J172
  rw [show inb (0 : Int32) 4 = true by decide, x_gd, x_lt, show (0 : Int32).toNatClampNeg = 0 from rfl, x_gd, x_lt, ← hF, rI_n (aa := m + 3) (ab := m) (by omega), rI_n (aa := m + 3) (ab := m) (by omega), rI_n (aa := m + 3) (ab := m) (by omega), ← hP, rI_n (aa := m + 4) (ab := m + 3) (by omega), rI_e]
theorem both_read (ku : K1 u = some (.inr (1, 600))) (hu : ¬ (r ≤ u ∧ u ≤ r + 21)) (hn : 5000 ≤ n) (hs : s < 3) (hl : l ≤ 600) (hbt : ∀ i, i < l → isBt (t i)) (h10 : h2.1 m 10 = nI l) (ht : ∀ i, i < l → h1.1 u i = t i ∧ h2.1 (m + 1) i = t i) : ∃ (F Pl : Int32) (h1' h2' : Hp), f5_read K1 n r u 600 (nI l) (nI s) h1 = some h1' ∧ f11_readText K2 n m (nI s) h2 = some ((if F = 0 then 1 else 0), h2') ∧ h1'.1 r 12 = F ∧ h1'.1 r 13 = Pl ∧ h2'.1 (m + 3) 0 = F ∧ h2'.1 (m + 4) 0 = Pl ∧ (F = 0 → Ctn r m s h1' h2') ∧ (∀ a k, ¬ (r ≤ a ∧ a ≤ r + 21) → h1'.1 a k = h1.1 a k) ∧ (∀ a k, a ≠ r → h1'.2.2 a k = h1.2.2 a k) ∧ ChM RTr m h2 h2' ∧ (∀ i, 1 ≤ i → h2'.1 (m + 3) i = h2.1 (m + 3) i ∧ h2'.1 (m + 4) i = h2.1 (m + 4) i) := by
  have ne : r ≠ u := fun hh => hu (by omega)
  have nu : u ≠ r + 21 := fun hh => hu (by omega)
  have hu' : ¬ (r + 1 ≤ u ∧ u ≤ r + 20) := fun hh => hu (by omega)
  -- the class begins
  obtain ⟨c, c1, c2, c3, c4⟩ := c_clear (K1 := K1) (n := n) (o := r + 1) (h := sI (sI (sI (sI (sI (sI (sR h1 r 4 (some u)) r 5 (nI l)) r 6 (nI s)) r 7 0) r 12 0) r 13 (-1)) r 11 0) hn
  obtain ⟨P, hP⟩ : ∃ P, P = sI (sI c (r + 14) 0 0) (r + 18) 0 0 := ⟨_, rfl⟩
  have Pr : ∀ k, P.1 r k = (sI (sI (sI (sI (sI (sI (sR h1 r 4 (some u)) r 5 (nI l)) r 6 (nI s)) r 7 0) r 12 0) r 13 (-1)) r 11 0).1 r k := fun k => by
    rw [hP, rI_n (by omega), rI_n (by omega), c3 _ _ (by omega)]
  have P5 : P.1 r 5 = nI l := by rw [Pr, rI_n (by omega), rI_n (by omega), rI_n (by omega), rI_n (by omega), rI_n (by omega), rI_e]
  have P6 : P.1 r 6 = nI s := by rw [Pr, rI_n (by omega), rI_n (by omega), rI_n (by omega), rI_n (by omega), rI_e]
  have P7 : P.1 r 7 = nI 0 := by rw [Pr, rI_n (by omega), rI_n (by omega), rI_n (by omega), rI_e]; rfl
  have P12 : P.1 r 12 = nI 0 := by rw [Pr, rI_n (by omega), rI_n (by omega), rI_e]; rfl
  have P13 : P.1 r 13 = -1 := by rw [Pr, rI_n (by omega), rI_e]
  have P11 : P.1 r 11 = nI 0 := by rw [Pr, rI_e]; rfl
  have P2 : P.2 = (sR h1 r 4 (some u)).2 := by rw [hP]; exact c2
  have Po : ∀ a k, ¬ (r ≤ a ∧ a ≤ r + 21) → P.1 a k = h1.1 a k := fun a k ha => by
    rw [hP, rI_n (by omega), rI_n (by omega), c3 _ _ (by omega), rI_n (by omega), rI_n (by omega), rI_n (by omega), rI_n (by omega), rI_n (by omega), rI_n (by omega)]; rfl
  have PN : vN (r + 1) P N0' := c4.kp (fun a k h1 h2 => by rw [hP, rI_n (by omega), rI_n (by omega)])
  have P14 : P.1 (r + 14) 0 = nI 0 := by rw [hP, rI_n (by omega), rI_e]; rfl
  have P18 : P.1 (r + 18) 0 = nI 0 := by rw [hP, rI_e]; rfl
  have Pu : P.2.2 r 4 = some u := by
    rw [show P.2.2 = (sR h1 r 4 (some u)).2.2 by rw [P2]]; exact rR_e
  have cs : f5_read K1 n r u 600 (nI l) (nI s) h1 = bp (f5_step K1 n r P) fun h13 => f5_read_L65 K1 n r n (nI 0) h13 := by
    unfold f5_read
    rw [x_lt, x_lt, x_lt, x_lt, x_lt, x_lt, x_lt, c1, x_bp, x_lt, x_lt, ← hP]; rfl
  -- the reference begins
  obtain ⟨q, qf, q0, q1, q2, -, q3⟩ := m_clear (K2 := K2) (n := n) (m := m) (S := nI s) rfl hs 122 0 n h2 (by omega) (by omega)
  obtain ⟨qf, rfl⟩ : ∃ g, qf = g + 1 := ⟨qf - 1, by omega⟩
  obtain ⟨Q, hQ⟩ : ∃ Q, Q = sI (sI (sI q m 20 (-1)) m 9 0) m 16 0 := ⟨_, rfl⟩
  have Qc : ChM RTl m h2 Q := by rw [hQ]; exact ChM.F (by decide) (ChM.F (by decide) (ChM.F (by decide) (q2.up (by decide))))
  have Qrow : ∀ p, p < 122 → Q.1 (m + 9) p = row0 s p := fun p hp => by
    rw [hQ, rI_n (by omega), rI_n (by omega), rI_n (by omega)]; exact q3 p (by omega) hp
  have Q9 : Q.1 m 9 = nI 0 := by rw [hQ, rI_n (by omega), rI_e]; rfl
  have Q16 : Q.1 m 16 = nI 0 := by rw [hQ, rI_e]; rfl
  have Q20 : Q.1 m 20 = -1 := by rw [hQ, rI_n (by omega), rI_n (by omega), rI_e]
  have Q10 : Q.1 m 10 = nI l := by rw [Qc.f (by decide)]; exact h10
  have ms : f11_readText K2 n m (nI s) h2 = bp (f11_token K2 n m Q) fun h6 => bd (f11_allLines_L2 K2 n m (nI s) n 1 h6) fun y9 h8 => if y9 = 0 then f11_readText_J123 K2 n m y9 h8 else (if nI s = 0 then (if (h8.1 m 16) = 0 then (if (h8.1 m 20) < (h8.1 (m + 9) 0) then f11_readText_J123 K2 n m y9 h8 else bp (f11_addsFault K2 n m (4 : Int32) (h8.1 m 11) h8) fun h15 => f11_readText_J123 K2 n m y9 h15) else f11_readText_J123 K2 n m y9 h8) else f11_readText_J123 K2 n m y9 h8) := by
    have e : f11_readText K2 n m (nI s) h2 = f11_readText_L2 K2 n m (nI s) (qf + 1) (nI 122) q := q1
    rw [e, f11_readText_L2, if_pos (show (122 : Int32) ≤ nI 122 by decide), x_lt, x_lt, x_lt, ← hQ]; rfl
  have V : TP r u m t l 0 P Q := ⟨hl, by omega, hbt, Pu, P5, Q10, fun i hi => by rw [Po _ _ hu, Qc.a (by omega) (by decide)]; exact ht i hi, P7, Q9⟩
  obtain ⟨a, b, kd, T1, T2, e0, e1, e2, e3, e4, e5⟩ := both_tok (K1 := K1) (K2 := K2) ku ne hn V
  have F0 : FL r m s 0 0 0 P Q := ⟨P6, by omega, by omega, P12, Q16, fun _ => P13, fun hh => absurd rfl hh⟩
  have L : LnS r u m t l a b kd s 0 0 T1 T2 := ⟨e3, F0.mv (by omega) e4 e5⟩
  have hh : HN r m 0 T1 T2 := ⟨by omega, by rw [e4.2 _ _ (by omega)]; exact P11, Or.inr ⟨by rw [e5.f (by decide)]; exact Q20, rfl⟩⟩
  have Trow : ∀ p, p < 122 → T2.1 (m + 9) p = row0 s p := fun p hp => by rw [e5.a (by omega) (by decide)]; exact Qrow p hp
  rw [cs, ms, e1, x_bp, e2, x_bp]
  -- the end, whatever the sort
  have fr1 : ∀ {H : Hp}, FrL r T1 H → (∀ a k, ¬ (r ≤ a ∧ a ≤ r + 21) → H.1 a k = h1.1 a k) ∧ (∀ a k, a ≠ r → H.2.2 a k = h1.2.2 a k) := fun {H} q => by
    refine ⟨fun a k ha => by rw [q.2 a k ha, e4.2 a k (by omega)]; exact Po a k ha, fun a k ha => ?_⟩
    rw [show H.2.2 = P.2.2 by rw [q.1, e4.1], show P.2.2 = (sR h1 r 4 (some u)).2.2 by rw [P2]]
    exact rR_n (by omega)
  have fr2 : ∀ {H : Hp} {x y : Int32}, ChM RTl m T2 H → ChM RTr m h2 (sI (sI H (m + 3) 0 x) (m + 4) 0 y) ∧ (∀ i, 1 ≤ i → (sI (sI H (m + 3) 0 x) (m + 4) 0 y).1 (m + 3) i = h2.1 (m + 3) i ∧ (sI (sI H (m + 3) 0 x) (m + 4) 0 y).1 (m + 4) i = h2.1 (m + 4) i) := fun {H x y} q => by
    have q' : ChM RTl m h2 H := Qc.tr ((e5.up (by decide)).tr q)
    refine ⟨ChM.A (by omega) (by decide) (ChM.A (by omega) (by decide) (q'.up (by decide))), fun i hi => ⟨?_, ?_⟩⟩
    · rw [rI_n (by omega), rI_n (by omega), q'.a (by omega) (by decide)]
    · rw [rI_n (by omega), rI_n (by omega), q'.a (by omega) (by decide)]
  have refd : ∀ (b' : Nat) (p1 p2 : Hp) (E1 : Option Hp) (E2 : Option (Int32 × Hp)), E1 = f5_read_J99 K1 n r p1 → E2 = some (0, p2) → Rfs r m b' p1 p2 → FrL r T1 p1 → ChM RTl m T2 p2 → ∃ (F Pl : Int32) (h1' h2' : Hp), E1 = some h1' ∧ (bd E2 fun y9 h8 => if y9 = 0 then f11_readText_J123 K2 n m y9 h8 else (if nI s = 0 then (if (h8.1 m 16) = 0 then (if (h8.1 m 20) < (h8.1 (m + 9) 0) then f11_readText_J123 K2 n m y9 h8 else bp (f11_addsFault K2 n m (4 : Int32) (h8.1 m 11) h8) fun h15 => f11_readText_J123 K2 n m y9 h15) else f11_readText_J123 K2 n m y9 h8) else f11_readText_J123 K2 n m y9 h8)) = some ((if F = 0 then 1 else 0), h2') ∧ h1'.1 r 12 = F ∧ h1'.1 r 13 = Pl ∧ h2'.1 (m + 3) 0 = F ∧ h2'.1 (m + 4) 0 = Pl ∧ (F = 0 → Ctn r m s h1' h2') ∧ (∀ a k, ¬ (r ≤ a ∧ a ≤ r + 21) → h1'.1 a k = h1.1 a k) ∧ (∀ a k, a ≠ r → h1'.2.2 a k = h1.2.2 a k) ∧ ChM RTr m h2 h2' ∧ (∀ i, 1 ≤ i → h2'.1 (m + 3) i = h2.1 (m + 3) i ∧ h2'.1 (m + 4) i = h2.1 (m + 4) i) := fun b' p1 p2 E1 E2 z1 z2 z3 z4 z5 => by
    have J : f5_read_J99 K1 n r p1 = some p1 := by
      unfold f5_read_J99 f5_mark
      rw [z3.1, if_neg b_10, x_bp, ite_self, ite_self]
    obtain ⟨g1, g2⟩ := fr1 z4
    obtain ⟨g3, g4⟩ := fr2 (x := 1) (y := nI b') z5
    refine ⟨1, nI b', p1, _, by rw [z1, J], ?_, z3.1, z3.2.1, by rw [rI_n (by omega), rI_e], rI_e, fun hh => absurd hh b_10, g1, g2, g3, g4⟩
    rw [z2, x_bd, if_pos rfl, m_last (F := 1) (Pl := nI b') (by rw [if_pos rfl]) (by rw [if_pos rfl, z3.2.2])]
  have done : ∀ (f' p' hi' : Nat) (p1 p2 : Hp) (E1 : Option Hp) (E2 : Option (Int32 × Hp)), E1 = f5_read_J99 K1 n r p1 → E2 = some (1, p2) → LnS r u m t l l l 0 s f' p' p1 p2 → HN r m hi' p1 p2 → FrL r T1 p1 → ChM RTl m T2 p2 → (s = 0 → f' = 0 → ∃ N, vN (r + 1) p1 N ∧ (∀ p, p < 122 → p2.1 (m + 9) p = nI (N p)) ∧ nP N hi') → (s ≠ 0 → f' = 0 → ∀ {H : Hp}, (∀ p, H.1 (m + 9) p = p2.1 (m + 9) p) → Ctn r m s p1 H) → ∃ (F Pl : Int32) (h1' h2' : Hp), E1 = some h1' ∧ (bd E2 fun y9 h8 => if y9 = 0 then f11_readText_J123 K2 n m y9 h8 else (if nI s = 0 then (if (h8.1 m 16) = 0 then (if (h8.1 m 20) < (h8.1 (m + 9) 0) then f11_readText_J123 K2 n m y9 h8 else bp (f11_addsFault K2 n m (4 : Int32) (h8.1 m 11) h8) fun h15 => f11_readText_J123 K2 n m y9 h15) else f11_readText_J123 K2 n m y9 h8) else f11_readText_J123 K2 n m y9 h8)) = some ((if F = 0 then 1 else 0), h2') ∧ h1'.1 r 12 = F ∧ h1'.1 r 13 = Pl ∧ h2'.1 (m + 3) 0 = F ∧ h2'.1 (m + 4) 0 = Pl ∧ (F = 0 → Ctn r m s h1' h2') ∧ (∀ a k, ¬ (r ≤ a ∧ a ≤ r + 21) → h1'.1 a k = h1.1 a k) ∧ (∀ a k, a ≠ r → h1'.2.2 a k = h1.2.2 a k) ∧ ChM RTr m h2 h2' ∧ (∀ i, 1 ≤ i → h2'.1 (m + 3) i = h2.1 (m + 3) i ∧ h2'.1 (m + 4) i = h2.1 (m + 4) i) := fun f' p' hi' p1 p2 E1 E2 z1 z2 z3 z4 z5 z6 z7 z8 => by
    obtain ⟨T, o6, o3, o1, o12, o16, oP, oQ⟩ := z3
    have zs : (nI s = (0 : Int32)) = (s = 0) := x_eq (ab := 0) (by omega) (by omega)
    have zf : (nI f' = (0 : Int32)) = (f' = 0) := x_eq (ab := 0) (by omega) (by omega)
    have zl : (nI f' ≤ (0 : Int32)) = (f' ≤ 0) := x_le (ab := 0) (by omega) (by omega)
    -- no fault more comes
    have plain : f5_read_J99 K1 n r p1 = some p1 → (bd E2 fun y9 h8 => if y9 = 0 then f11_readText_J123 K2 n m y9 h8 else (if nI s = 0 then (if (h8.1 m 16) = 0 then (if (h8.1 m 20) < (h8.1 (m + 9) 0) then f11_readText_J123 K2 n m y9 h8 else bp (f11_addsFault K2 n m (4 : Int32) (h8.1 m 11) h8) fun h15 => f11_readText_J123 K2 n m y9 h15) else f11_readText_J123 K2 n m y9 h8) else f11_readText_J123 K2 n m y9 h8)) = f11_readText_J123 K2 n m 1 p2 → (f' = 0 → ∀ {H : Hp}, (∀ p, H.1 (m + 9) p = p2.1 (m + 9) p) → Ctn r m s p1 H) → ∃ (F Pl : Int32) (h1' h2' : Hp), E1 = some h1' ∧ (bd E2 fun y9 h8 => if y9 = 0 then f11_readText_J123 K2 n m y9 h8 else (if nI s = 0 then (if (h8.1 m 16) = 0 then (if (h8.1 m 20) < (h8.1 (m + 9) 0) then f11_readText_J123 K2 n m y9 h8 else bp (f11_addsFault K2 n m (4 : Int32) (h8.1 m 11) h8) fun h15 => f11_readText_J123 K2 n m y9 h15) else f11_readText_J123 K2 n m y9 h8) else f11_readText_J123 K2 n m y9 h8)) = some ((if F = 0 then 1 else 0), h2') ∧ h1'.1 r 12 = F ∧ h1'.1 r 13 = Pl ∧ h2'.1 (m + 3) 0 = F ∧ h2'.1 (m + 4) 0 = Pl ∧ (F = 0 → Ctn r m s h1' h2') ∧ (∀ a k, ¬ (r ≤ a ∧ a ≤ r + 21) → h1'.1 a k = h1.1 a k) ∧ (∀ a k, a ≠ r → h1'.2.2 a k = h1.2.2 a k) ∧ ChM RTr m h2 h2' ∧ (∀ i, 1 ≤ i → h2'.1 (m + 3) i = h2.1 (m + 3) i ∧ h2'.1 (m + 4) i = h2.1 (m + 4) i) := fun J M C => by
      obtain ⟨g1, g2⟩ := fr1 z5
      obtain ⟨g3, g4⟩ := fr2 (x := nI f') (y := p1.1 r 13) z6
      have hPl : p1.1 r 13 = if (1 : Int32) = 0 then p2.1 m 15 else (if p2.1 m 16 ≤ 0 then -1 else p2.1 m 17) := by
        rw [if_neg b_10, o16]
        simp only [zl]
        by_cases f0 : f' = 0
        · rw [if_pos (by omega)]; exact oP f0
        · rw [if_neg (by omega), (oQ f0).1, (oQ f0).2.1]
      refine ⟨nI f', p1.1 r 13, p1, _, by rw [z1, J], by rw [M, m_last (F := nI f') (Pl := p1.1 r 13) (by rw [if_neg b_10, o16]) hPl], o12, rfl, by rw [rI_n (by omega), rI_e], rI_e, fun h0 => C (by rw [zf] at h0; exact h0) (fun p => by rw [rI_n (by omega), rI_n (by omega)]), g1, g2, g3, g4⟩
    by_cases s0 : s = 0
    · by_cases f0 : f' = 0
      · obtain ⟨N, N1, N2, N3⟩ := z7 s0 f0
        have n0 := N3.1
        have hh := z4.1
        have e11 : p1.1 r 11 = nI hi' := z4.2.1
        have eN : p1.1 (r + 1) 0 = nI (N 0) := N1.1 0 (by omega)
        have lt1 : (nI hi' < nI (N 0)) = (hi' < N 0) := x_lt' (by omega) (by omega)
        have mfar : (p2.1 m 20 < nI (N 0)) ↔ hi' < N 0 := by
          rcases z4.2.2 with e | ⟨e, e0⟩
          · rw [e, lt1]
          · rw [e, e0]
            refine ⟨fun _ => by omega, fun _ => ?_⟩
            refine Int32.lt_iff_toInt_lt.mpr ?_
            rw [nI_toInt (by omega)]
            have : Int32.toInt (-1) = -1 := rfl
            omega
        by_cases hlt : hi' < N 0
        · refine plain ?_ ?_ (fun _ {H} hH => Or.inl ⟨s0, N, N1, fun p hp => by rw [hH]; exact N2 p hp, N3.ok hlt⟩)
          · unfold f5_read_J99
            rw [o6, e11, eN]
            simp only [zs]
            rw [if_pos s0, if_pos (by rw [lt1]; exact hlt)]
          · rw [z2, x_bd, if_neg b_10]
            simp only [zs]
            rw [if_pos s0, o16, N2 0 (by omega), if_pos (mfar.mpr hlt), ite_self]
        · -- a node that is none
          obtain ⟨g1, g2⟩ := fr1 (z5.tr (show FrL r p1 (sI (sI p1 r 12 4) r 13 (nI l)) from ⟨rfl, fun a k ha => by rw [rI_n (by omega), rI_n (by omega)]⟩))
          obtain ⟨g3, g4⟩ := fr2 (x := 4) (y := nI l) (z6.tr (show ChM RTl m p2 (sI (sI p2 m 16 4) m 17 (nI l)) from ChM.F (by decide) (ChM.F (by decide) ChM.rf)))
          refine ⟨4, nI l, sI (sI p1 r 12 4) r 13 (nI l), _, ?_, ?_, by rw [rI_n (by omega), rI_e], rI_e, by rw [rI_n (by omega), rI_e], rI_e, fun hh => absurd hh (by decide), g1, g2, g3, g4⟩
          · rw [z1]
            unfold f5_read_J99 f5_mark
            rw [o6, e11, eN, T.1.2.2.2.2.1, o12]
            simp only [zs, zf]
            rw [if_pos s0, if_neg (by rw [lt1]; exact hlt), if_pos f0, x_lt, x_lt, x_bp]
          · rw [z2, x_bd, if_neg b_10]
            simp only [zs]
            have o16' : p2.1 m 16 = 0 := by rw [o16, f0]; rfl
            rw [if_pos s0, if_pos o16', N2 0 (by omega), if_neg (fun hh => hlt (mfar.mp hh))]
            unfold f11_addsFault f11_addsFault_J31
            rw [o16', if_pos rfl, x_lt, x_lt, x_bp, T.2.2.1, m_last (F := 4) (Pl := nI l) (by rw [if_neg b_10, rI_n (by omega), rI_e]) (by rw [if_neg b_10, rI_n (by omega), rI_e, if_neg (show ¬ (4 : Int32) ≤ 0 by decide), rI_e])]
      · refine plain ?_ ?_ (fun h0 => absurd h0 f0)
        · unfold f5_read_J99 f5_mark
          rw [o12]
          simp only [zf]
          rw [if_neg f0, x_bp, ite_self, ite_self]
        · rw [z2, x_bd, if_neg b_10, o16, if_neg (show ¬ nI f' = (0 : Int32) by rw [zf]; exact f0), ite_self]
    · refine plain ?_ ?_ (fun h0 => z8 s0 h0)
      · unfold f5_read_J99
        rw [o6]
        simp only [zs]
        rw [if_neg s0]
      · rw [z2, x_bd, if_neg b_10]
        simp only [zs]
        rw [if_neg s0]
  rcases (show s = 0 ∨ s = 1 ∨ s = 2 by omega) with hs0 | hs1 | hs2
  · subst hs0
    have D : NGn r m 0 0 T1 T2 := ⟨⟨0, 0, 0, by omega, by omega, by omega, by rw [Trow 2 (by omega)]; rfl, by rw [Trow 3 (by omega)]; rfl, by rw [Trow 4 (by omega)]; rfl⟩, fun _ => ⟨N0', PN.kp (fun a k h1 h2 => e4.2 _ _ (by omega)), fun p hp => by rw [Trow p hp]; rfl, N0_P⟩⟩
    rcases lines_0 (K1 := K1) (K2 := K2) ku ne nu hu' hn L hh D with ⟨b', p1, p2, w1, w2, w3, w4, w5⟩ | ⟨f', p', hi', p1, p2, w1, w2, w3, w4, w5, w6, w7⟩
    · exact refd b' p1 p2 _ _ w1 w2 w3 w4 w5
    · exact done f' p' hi' p1 p2 _ _ w1 w2 w3 w4 w6 w7 (fun _ f0 => w5.2 f0) (fun hh => absurd rfl hh)
  · subst hs1
    have D : RGn r m 0 T1 T2 := ⟨0, by omega, by rw [Trow 0 (by omega)]; rfl, fun _ => ⟨⟨by rw [e4.2 _ _ (by omega)]; exact P14, fun k hk => by omega⟩, by omega, fun k hk => by omega⟩⟩
    rcases lines_1 (K1 := K1) (K2 := K2) ku ne nu hu' hn L hh D with ⟨b', p1, p2, w1, w2, w3, w4, w5⟩ | ⟨f', p', hi', p1, p2, w1, w2, w3, w4, w5, w6, w7⟩
    · exact refd b' p1 p2 _ _ w1 w2 w3 w4 w5
    · refine done f' p' hi' p1 p2 _ _ w1 w2 w3 w4 w6 w7 (fun hh => absurd hh (by omega)) (fun _ f0 {H} hH => ?_)
      obtain ⟨q, x1, x2, x3⟩ := w5
      have er : (fun p => H.1 (m + 9) p) = (fun p => p2.1 (m + 9) p) := funext hH
      exact Or.inr (Or.inl ⟨rfl, q, by rw [hH]; exact x2, by rw [er]; exact (x3 f0).1, by rw [er]; exact (x3 f0).2⟩)
  · subst hs2
    have D : LG r m 0 T1 T2 := ⟨0, by omega, by rw [Trow 0 (by omega)]; rfl, fun _ => ⟨⟨by rw [e4.2 _ _ (by omega)]; exact P18, fun k hk => by omega⟩, by omega, fun k hk => by omega⟩⟩
    rcases lines_2 (K1 := K1) (K2 := K2) ku ne nu hu' hn L hh D with ⟨b', p1, p2, w1, w2, w3, w4, w5⟩ | ⟨f', p', hi', p1, p2, w1, w2, w3, w4, w5, w6, w7⟩
    · exact refd b' p1 p2 _ _ w1 w2 w3 w4 w5
    · refine done f' p' hi' p1 p2 _ _ w1 w2 w3 w4 w6 w7 (fun hh => absurd hh (by omega)) (fun _ f0 {H} hH => ?_)
      obtain ⟨q, x1, x2, x3⟩ := w5
      have er : (fun p => H.1 (m + 9) p) = (fun p => p2.1 (m + 9) p) := funext hH
      exact Or.inr (Or.inr ⟨rfl, q, by rw [hH]; exact x2, by rw [er]; exact (x3 f0).1, by rw [er]; exact (x3 f0).2⟩)
end Read
