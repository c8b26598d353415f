/-! reading: faults and what stands behind a verb, on both sides -/
def FL (r m s f p B : Nat) (h1 h2 : Hp) : Prop := h1.1 r 6 = nI s ∧ f ≤ 3 ∧ f ≠ 1 ∧ h1.1 r 12 = nI f ∧ h2.1 m 16 = nI f ∧ (f = 0 → h1.1 r 13 = -1) ∧ (f ≠ 0 → h1.1 r 13 = nI p ∧ h2.1 m 17 = nI p ∧ p < B)
def LnS (r u m : Nat) (t : Nat → Int32) (l a b kd s f p : Nat) (h1 h2 : Hp) : Prop := TR r u m t l a b kd h1 h2 ∧ FL r m s f p b h1 h2
def FrA (r : Nat) (h h' : Hp) : Prop := h'.2 = h.2 ∧ ∀ a k, ¬ (a = r ∧ 7 ≤ k ∧ k ≤ 13) → a ≠ r + 21 → h'.1 a k = h.1 a k
theorem FrA.rf {r : Nat} {h : Hp} : FrA r h h := ⟨rfl, fun _ _ _ _ => rfl⟩
theorem FrA.tr {r : Nat} {h h' h'' : Hp} (q : FrA r h h') (q' : FrA r h' h'') : FrA r h h'' := ⟨q'.1.trans q.1, fun a k h1 h2 => (q'.2 a k h1 h2).trans (q.2 a k h1 h2)⟩
theorem FrC.up {r : Nat} {h h' : Hp} (q : FrC r h h') : FrA r h h' := ⟨q.1, fun a k h1 _ => q.2 a k (by omega)⟩
theorem FrA.F {r k : Nat} {h h' : Hp} {w : Int32} (hk : 7 ≤ k ∧ k ≤ 13) (q : FrA r h h') : FrA r h (sI h' r k w) := ⟨q.1, fun a j h1 h2 => by rw [rI_n (by omega)]; exact q.2 a j h1 h2⟩
theorem FrA.P {r k : Nat} {h h' : Hp} {w : Int32} (q : FrA r h h') : FrA r h (sI h' (r + 21) k w) := ⟨q.1, fun a j h1 h2 => by rw [rI_n (by omega)]; exact q.2 a j h1 h2⟩
def RTa : List Nat := [109, 111, 112, 113, 114, 115, 116, 117, 120, 121, 10]
theorem RTk.up {m : Nat} {h h' : Hp} (q : ChM RTk m h h') : ChM RTa m h h' := q.up (by decide)
def Rfs (r m b : Nat) (h1 h2 : Hp) : Prop := h1.1 r 12 = 1 ∧ h1.1 r 13 = nI b ∧ h2.1 m 15 = nI b
section Args
variable {K1 K2 : Ly} {n r u m l a b kd s f p : Nat} {h1 h2 h1' h2' : Hp} {t : Nat → Int32}
theorem FL.mv {B B' : Nat} (v : FL r m s f p B h1 h2) (hB : B ≤ B') (q : FrC r h1 h1') (q' : ChM RTk m h2 h2') : FL r m s f p B' h1' h2' := by
  obtain ⟨v1, v2, v3, v4, v5, v6, v7⟩ := v
  refine ⟨by rw [q.2 _ _ (by omega)]; exact v1, v2, v3, by rw [q.2 _ _ (by omega)]; exact v4, by rw [q'.f (by decide)]; exact v5, fun h0 => by rw [q.2 _ _ (by omega)]; exact v6 h0, fun h0 => ?_⟩
  rw [q.2 _ _ (by omega), q'.f (by decide)]
  obtain ⟨w1, w2, w3⟩ := v7 h0
  exact ⟨w1, w2, by omega⟩
theorem both_mark {q B : Nat} (hq : q = 2 ∨ q = 3) (hB : B < 2147483648) (v : FL r m s f p B h1 h2) : ∃ f' p' h1' h2', f5_mark K1 n r (nI q) (nI B) h1 = some h1' ∧ f11_addsFault K2 n m (nI q) (nI B) h2 = some h2' ∧ FL r m s f' p' (B + 1) h1' h2' ∧ f' ≠ 0 ∧ h1'.2 = h1.2 ∧ (∀ a k, ¬ (a = r ∧ (k = 12 ∨ k = 13)) → h1'.1 a k = h1.1 a k) ∧ ChM [116, 117] m h2 h2' := by
  obtain ⟨v1, v2, v3, v4, v5, v6, v7⟩ := v
  by_cases h0 : f = 0
  · subst h0
    have z : nI 0 = (0 : Int32) := rfl
    refine ⟨q, B, sI (sI h1 r 12 (nI q)) r 13 (nI B), sI (sI h2 m 16 (nI q)) m 17 (nI B), ?_, ?_, ⟨by rw [rI_n (by omega), rI_n (by omega)]; exact v1, by omega, by omega, by rw [rI_n (by omega), rI_e], by rw [rI_n (by omega), rI_e], fun hh => by omega, fun _ => ⟨rI_e, rI_e, by omega⟩⟩, by omega, rfl, fun a k ha => by rw [rI_n (by omega), rI_n (by omega)], ChM.F (by simp) (ChM.F (by simp) ChM.rf)⟩
    · unfold f5_mark
      rw [v4, if_pos z, x_lt, x_lt]
    · unfold f11_addsFault f11_addsFault_J31
      rw [v5, if_pos z, x_lt, x_lt]
  · obtain ⟨w1, w2, w3⟩ := v7 h0
    have z : ¬ nI f = (0 : Int32) := nI_ne0 (by omega) (by omega)
    refine ⟨f, p, h1, h2, ?_, ?_, ⟨v1, v2, v3, v4, v5, v6, fun _ => ⟨w1, w2, by omega⟩⟩, h0, rfl, fun _ _ _ => rfl, ChM.rf⟩
    · unfold f5_mark
      rw [v4, if_neg z]
    · unfold f11_addsFault
      rw [v5, if_neg z, w2, if_neg (nI_nlt (by omega) (by omega)), if_neg (show ¬ nI B = nI p by rw [x_eq (by omega) (by omega)]; omega)]
theorem TR.bl (v : TR r u m t l a b kd h1 h2) : b ≤ l := by
  have := v.1.2.1
  have := v.2.2.2.1
  omega
/-- both sides refuse what stands here -/
theorem both_ref (v : TR r u m t l a b kd h1 h2) : ∃ h1' h2', f5_refuse K1 n r h1 = some h1' ∧ f11_fails K2 n m h2 = some (0, h2') ∧ Rfs r m b h1' h2' ∧ FrA r h1 h1' ∧ ChM RTa m h2 h2' := by
  refine ⟨sI (sI h1 r 12 1) r 13 (nI b), sI h2 m 15 (nI b), ?_, ?_, ⟨by rw [rI_n (by omega), rI_e], rI_e, rI_e⟩, FrA.F (by omega) (FrA.F (by omega) FrA.rf), ChM.F (by decide) ChM.rf⟩
  · unfold f5_refuse
    rw [x_lt, x_lt, rI_n (by omega), v.2.1]
  · unfold f11_fails
    rw [x_lt, v.2.2.1]
/-- the next token behind an argument -/
theorem both_nx (ku : K1 u = some (.inr (1, 600))) (ne : r ≠ u) (hn : 5000 ≤ n) (v : TR r u m t l a b kd h1 h2) (k0 : kd ≠ 0) {p1 p2 : Hp} (q : FrA r h1 p1) (q7 : p1.1 r 7 = h1.1 r 7) (q' : ChM RTa m h2 p2) (q9 : p2.1 m 9 = h2.1 m 9) (nu : u ≠ r + 21) {f' p' B : Nat} (w : FL r m s f' p' B p1 p2) (hB : B ≤ b + 1) : ∃ a' b' kd' h1' h2', b < b' ∧ f5_step K1 n r p1 = some h1' ∧ f11_token K2 n m p2 = some h2' ∧ LnS r u m t l a' b' kd' s f' p' h1' h2' ∧ FrC r p1 h1' ∧ ChM RTk m p2 h2' := by
  obtain ⟨V, -, -, hba, -, -, -, -, hlt, -⟩ := v
  have := hlt k0
  obtain ⟨v1, v2, v3, v4, v5, v6, v7, v8, v9⟩ := V
  have V' : TP r u m t l a p1 p2 := ⟨v1, v2, v3, by rw [q.1]; exact v4, by rw [q.2 _ _ (by omega) (by omega)]; exact v5, by rw [q'.f (by decide)]; exact v6, fun i hi => by rw [q.2 _ _ (by omega) nu, q'.a (by omega) (by decide)]; exact v7 i hi, by rw [q7]; exact v8, by rw [q9]; exact v9⟩
  obtain ⟨a', b', kd', h1', h2', g1, g2, g3, g4, g5, g6⟩ := both_tok (K1 := K1) (K2 := K2) ku ne hn V'
  exact ⟨a', b', kd', h1', h2', by omega, g2, g3, ⟨g4, w.mv (by omega) g5 g6⟩, g5, g6⟩
theorem mk_3 {kd : Nat} (h : kd ≤ 4) : (mk kd = 3) = (kd = 2) := by
  unfold mk
  refine propext ?_
  rcases (show kd = 0 ∨ kd = 1 ∨ kd = 2 ∨ kd = 3 ∨ kd = 4 by omega) with rfl | rfl | rfl | rfl | rfl <;> decide
theorem mk_2 {kd : Nat} (h : kd ≤ 4) : (mk kd = 2) = (kd = 1) := by
  unfold mk
  refine propext ?_
  rcases (show kd = 0 ∨ kd = 1 ∨ kd = 2 ∨ kd = 3 ∨ kd = 4 by omega) with rfl | rfl | rfl | rfl | rfl <;> decide
theorem mk_4 {kd : Nat} (h : kd ≤ 4) : (mk kd = 4) = (kd = 3) := by
  unfold mk
  refine propext ?_
  rcases (show kd = 0 ∨ kd = 1 ∨ kd = 2 ∨ kd = 3 ∨ kd = 4 by omega) with rfl | rfl | rfl | rfl | rfl <;> decide
theorem mk_0 {kd : Nat} (h : kd ≤ 4) : (mk kd = 0) = (kd = 0) := by
  unfold mk
  refine propext ?_
  rcases (show kd = 0 ∨ kd = 1 ∨ kd = 2 ∨ kd = 3 ∨ kd = 4 by omega) with rfl | rfl | rfl | rfl | rfl <;> decide
/-- a number stands behind a verb -/
theorem num_arg (ku : K1 u = some (.inr (1, 600))) (ne : r ≠ u) (nu : u ≠ r + 21) (hn : 5000 ≤ n) (L : LnS r u m t l a b kd s f p h1 h2) {c i k sh fu : Nat} {vb lo hi but : Int32} (okf : Nat → Bool) (nd : Bool) (hi4 : i < 4) (hk4 : k < 4) (hsl : i < es_len.getD sh 0) (hsn : es_len.getD sh 0 ≤ 4) (hsch : sch sh (nI i) = nI c) (hc : c < 119)
    (hcan : ∀ (v : Nat) (H : Hp), v ≤ 99 → H.1 r 10 = nI v → (i ≠ 0 → H.1 (r + 21) 0 = h1.1 (r + 21) 0) → f5_canBe K1 n r (nI c) H = some ((if okf v = true then 1 else 0), if nd = true then sI H r 11 (jmax (H.1 r 11) (nI v)) else H))
    (hmod : ∀ v : Nat, v ≤ 99 → (okf v = true ↔ (¬ f11_in (nI v) lo hi = 0 ∧ ¬ nI v = but))) :
    (∃ h1' h2', f5_readLine_L55 K1 n r vb sh (fu + 1) (nI i) h1 = some h1' ∧ f11_takeBut K2 n m (nI k) lo hi but h2 = some (0, h2') ∧ Rfs r m b h1' h2' ∧ FrA r h1 h1' ∧ ChM RTa m h2 h2') ∨
    (∃ v a' b' kd' f' p' h1' h2', v ≤ 99 ∧ f5_readLine_L55 K1 n r vb sh (fu + 1) (nI i) h1 = f5_readLine_L55 K1 n r vb sh fu (nI (i + 1)) h1' ∧ f11_takeBut K2 n m (nI k) lo hi but h2 = some (1, h2') ∧ LnS r u m t l a' b' kd' s f' p' h1' h2' ∧ b < b' ∧ (f' = 0 → f = 0 ∧ okf v = true) ∧ h1'.1 (r + 21) i = nI v ∧ (∀ q, q ≠ i → h1'.1 (r + 21) q = h1.1 (r + 21) q) ∧ h2'.1 (m + 10) k = nI v ∧ (∀ q, q ≠ k → h2'.1 (m + 10) q = h2.1 (m + 10) q) ∧ h2'.1 m 21 = (if okf v = true then h2.1 m 21 else 0) ∧ h1'.1 r 11 = (if nd = true then jmax (h1.1 r 11) (nI v) else h1.1 r 11) ∧ h2'.1 m 20 = h2.1 m 20 ∧ FrA r h1 h1' ∧ ChM RTa m h2 h2') := by
  obtain ⟨T, F⟩ := L
  obtain ⟨V, t9, t11, hba, k4, t8, t12, tz, tl, tw, tv⟩ := id T
  have l6 := V.1
  have bl := T.bl
  have sl : ¬ slen sh ≤ nI i := by
    show ¬ nI (es_len.getD sh 0) ≤ nI i
    exact nI_ge hsl (by omega)
  have e4 : ¬ (4 : Int32) ≤ nI i := by rw [l_4]; exact nI_ge hi4 (by omega)
  have e119 : ¬ nI c = (119 : Int32) := by
    rw [show (119 : Int32) = nI 119 from rfl, x_eq (by omega) (by omega)]; omega
  have kk : (nI kd = (2 : Int32)) = (kd = 2) := x_eq (ab := 2) (by omega) (by omega)
  have cs : f5_readLine_L55 K1 n r vb sh (fu + 1) (nI i) h1 = f5_readLine_J95 K1 n (f5_readLine_L55 K1 n r vb sh fu) r vb sh (nI i) (nI c) (nI kd) 2 h1 := by
    rw [f5_readLine_L55, if_neg sl, if_neg e4, x_in hsl (by omega), x_gd, x_lt, hsch, t8, if_neg e119]
  rw [cs]
  unfold f5_readLine_J95 f11_takeBut
  rw [t12]
  simp only [kk, mk_3 k4]
  by_cases h2d : kd = 2
  · refine Or.inr ?_
    obtain ⟨v, v99, w1, w2⟩ := tv h2d
    rw [if_pos h2d, if_pos h2d, x_in hi4 (by omega), x_gd, x_lt, x_cl (by omega), w1, x_in hk4 (by omega), x_gd, x_lt, x_cl (by omega), rI_n (by omega), w2]
    have can := hcan v (sI h1 (r + 21) i (nI v)) v99 (by rw [rI_n (by omega)]; exact w1) (fun hi0 => rI_n (by omega))
    rw [can, x_bd]
    have P1 : ∃ P, P = (if nd = true then sI (sI h1 (r + 21) i (nI v)) r 11 (jmax ((sI h1 (r + 21) i (nI v)).1 r 11) (nI v)) else sI h1 (r + 21) i (nI v)) := ⟨_, rfl⟩
    obtain ⟨P, hP⟩ := P1
    rw [← hP]
    have fP : FrA r h1 P := by
      rw [hP]; split
      · exact FrA.F (by omega) (FrA.P FrA.rf)
      · exact FrA.P FrA.rf
    have gP : ∀ k', k' ≠ 11 → P.1 r k' = h1.1 r k' := fun k' hk' => by
      rw [hP]; split
      · rw [rI_n (by omega), rI_n (by omega)]
      · rw [rI_n (by omega)]
    have gQ : ∀ q, P.1 (r + 21) q = if q = i then nI v else h1.1 (r + 21) q := fun q => by
      have e : (sI h1 (r + 21) i (nI v)).1 (r + 21) q = if q = i then nI v else h1.1 (r + 21) q := by
        by_cases hqi : q = i
        · rw [hqi, rI_e, if_pos rfl]
        · rw [rI_n (by omega), if_neg hqi]
      rw [hP]; split
      · rw [rI_n (by omega)]; exact e
      · exact e
    have g11 : P.1 r 11 = if nd = true then jmax (h1.1 r 11) (nI v) else h1.1 r 11 := by
      rw [hP]; split
      · rw [rI_e, rI_n (by omega)]
      · rw [rI_n (by omega)]
    have Q2 : ChM RTa m h2 (sI h2 (m + 10) k (nI v)) := ChM.A (by omega) (by decide) ChM.rf
    have F' : FL r m s f p b P (sI h2 (m + 10) k (nI v)) := by
      obtain ⟨v1, v2, v3, v4, v5, v6, v7⟩ := F
      refine ⟨by rw [gP _ (by omega)]; exact v1, v2, v3, by rw [gP _ (by omega)]; exact v4, by rw [rI_n (by omega)]; exact v5, fun h0 => by rw [gP _ (by omega)]; exact v6 h0, fun h0 => ?_⟩
      rw [gP _ (by omega), rI_n (by omega)]; exact v7 h0
    by_cases hok : okf v = true
    · obtain ⟨z1, z2⟩ := (hmod v v99).mp hok
      obtain ⟨a', b', kd', h1', h2', g1, g2, g3, g4, g5, g6⟩ := both_nx (K1 := K1) (K2 := K2) ku ne hn T (by omega) fP (gP _ (by omega)) Q2 (rI_n (by omega)) nu F' (by omega)
      refine ⟨v, a', b', kd', f, p, h1', h2', v99, ?_, ?_, g4, g1, fun h0 => ⟨h0, hok⟩, ?_, fun q hq => ?_, ?_, fun q hq => ?_, ?_, ?_, ?_, fP.tr g5.up, Q2.tr (RTk.up g6)⟩
      · rw [if_pos hok, if_neg b_10, f5_readLine_J131, g2, x_bp, x_lt, nI_1]
      · rw [if_neg z1, if_neg z2, f11_takeBut_J58, g3, x_bp]
      · rw [g5.2 _ _ (by omega), gQ, if_pos rfl]
      · rw [g5.2 _ _ (by omega), gQ, if_neg hq]
      · rw [g6.a (by omega) (by decide), rI_e]
      · rw [g6.a (by omega) (by decide), rI_n (by omega)]
      · rw [g6.f (by decide), rI_n (by omega), if_pos hok]
      · rw [g5.2 _ _ (by omega), g11]
      · rw [g6.f (by decide), rI_n (by omega)]
    · have z : f11_in (nI v) lo hi = 0 ∨ nI v = but := by
        by_cases z1 : f11_in (nI v) lo hi = 0
        · exact Or.inl z1
        · by_cases z2 : nI v = but
          · exact Or.inr z2
          · exact absurd ((hmod v v99).mpr ⟨z1, z2⟩) hok
      obtain ⟨f', p', P', Q', m1, m2, m3, m4, m5, m6, m7⟩ := both_mark (K1 := K1) (K2 := K2) (n := n) (q := 2) (Or.inl rfl) (show b < 2147483648 by omega) F'
      have fP' : FrA r h1 P' := fP.tr ⟨m5, fun a k h1 h2 => m6 a k (by omega)⟩
      have Q3 : ChM RTa m h2 (sI Q' m 21 0) := ChM.F (by decide) (Q2.tr (m7.up (by decide)))
      have F3 : FL r m s f' p' (b + 1) P' (sI Q' m 21 0) := by
        obtain ⟨v1, v2, v3, v4, v5, v6, v7⟩ := m3
        exact ⟨v1, v2, v3, v4, by rw [rI_n (by omega)]; exact v5, v6, fun h0 => by rw [rI_n (by omega)]; exact v7 h0⟩
      obtain ⟨a', b', kd', h1', h2', g1, g2, g3, g4, g5, g6⟩ := both_nx (K1 := K1) (K2 := K2) ku ne hn T (by omega) fP' (by rw [m6 _ _ (by omega)]; exact gP _ (by omega)) Q3 (by rw [rI_n (by omega), m7.f (by decide), rI_n (by omega)]) nu F3 (Nat.le_refl _)
      refine ⟨v, a', b', kd', f', p', h1', h2', v99, ?_, ?_, g4, g1, fun h0 => absurd h0 m4, ?_, fun q hq => ?_, ?_, fun q hq => ?_, ?_, ?_, ?_, fP'.tr g5.up, Q3.tr (RTk.up g6)⟩
      · have m1 : f5_mark K1 n r (2 : Int32) (nI b) P = some P' := m1
        rw [if_neg hok, if_pos rfl, gP _ (by omega), t9, m1, x_bp, f5_readLine_J131, g2, x_bp, x_lt, nI_1]
      · have m2 : f11_addsFault K2 n m (2 : Int32) (nI b) (sI h2 (m + 10) k (nI v)) = some Q' := m2
        have J : f11_takeBut_J44 K2 n m (sI h2 (m + 10) k (nI v)) = some (1, h2') := by
          unfold f11_takeBut_J44 f11_takeBut_J58
          rw [rI_n (by omega), t11, m2, x_bp, x_lt, g3, x_bp]
        rcases z with z | z
        · rw [if_pos z, J]
        · rw [if_pos z, J, ite_self]
      · rw [g5.2 _ _ (by omega), m6 _ _ (by omega), gQ, if_pos rfl]
      · rw [g5.2 _ _ (by omega), m6 _ _ (by omega), gQ, if_neg hq]
      · rw [g6.a (by omega) (by decide), rI_n (by omega), m7.a (by omega) (by decide), rI_e]
      · rw [g6.a (by omega) (by decide), rI_n (by omega), m7.a (by omega) (by decide), rI_n (by omega)]
      · rw [g6.f (by decide), rI_e, if_neg hok]
      · rw [g5.2 _ _ (by omega), m6 _ _ (by omega), g11]
      · rw [g6.f (by decide), rI_n (by omega), m7.f (by decide), rI_n (by omega)]
  · refine Or.inl ?_
    obtain ⟨h1', h2', g1, g2, g3, g4, g5⟩ := both_ref (K1 := K1) (K2 := K2) (n := n) T
    refine ⟨h1', h2', ?_, ?_, g3, g4, g5⟩
    · rw [if_neg h2d, g1, x_bp]
    · rw [if_neg h2d, g2, x_bd, show isB (0 : Int32) = true by decide, x_gd]
end Args
