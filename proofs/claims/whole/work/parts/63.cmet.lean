/-! the class's entries: found, joined, made; an interest is met -/
def sm1 (c : Nat) (h h' : Hp) (a : Nat) : Prop := ∀ x k, rgC c x k = 1 → x ≠ a → h'.1 x k = h.1 x k ∧ h'.2.1 x k = h.2.1 x k ∧ h'.2.2 x k = h.2.2 x k
section CEnt
variable {K : Ly} {n c o : Nat} {h : Hp} {N : Nat → Nat} {aw : Int32}
theorem sm1.rf {a : Nat} : sm1 c h h a := fun _ _ _ _ => ⟨rfl, rfl, rfl⟩
theorem sm1.tr {h1 h2 : Hp} {a : Nat} (q1 : sm1 c h h1 a) (q2 : sm1 c h1 h2 a) : sm1 c h h2 a := fun x k hx hk =>
  have u := q1 x k hx hk
  have w := q2 x k hx hk
  ⟨w.1.trans u.1, w.2.1.trans u.2.1, w.2.2.trans u.2.2⟩
theorem sm1.ch {R : List Nat} {h1 : Hp} {a : Nat} (q : Ch R c h h1) (h1' : ¬ 1 ∈ R) : sm1 c h h1 a := fun x k hx _ => q x k (by rw [hx]; exact h1')
theorem sm1.I {h1 : Hp} {a k : Nat} {x : Int32} (q : sm1 c h h1 a) : sm1 c h (sI h1 a k x) a := fun y i hy hi => by
  have u := q y i hy hi
  exact ⟨by rw [rI_n (Or.inl hi)]; exact u.1, u.2.1, u.2.2⟩
theorem sm1.L {h1 : Hp} {a k : Nat} {x : Int64} (q : sm1 c h h1 a) : sm1 c h (sL h1 a k x) a := fun y i hy hi => by
  have u := q y i hy hi
  exact ⟨u.1, by rw [rL_n (Or.inl hi)]; exact u.2.1, u.2.2⟩
theorem rwo_sm {h' : Hp} {j i : Nat} (q : sm1 c h h' (c + 23 + 2 * j)) (hi : i < 360) (hj : i ≠ j) : rwo h' (c + 23 + 2 * i) = rwo h (c + 23 + 2 * i) := by
  have e : ∀ k, _ := fun k => q (c + 23 + 2 * i) k (rg_e hi) (by omega)
  unfold rwo
  rw [show h'.1 (c + 23 + 2 * i) = h.1 (c + 23 + 2 * i) from funext fun k => (e k).1, show h'.2.1 (c + 23 + 2 * i) = h.2.1 (c + 23 + 2 * i) from funext fun k => (e k).2.1]
theorem cvE_at {u w : List En} {e : En} (v : cvE c h (u ++ e :: w)) : ∃ j, j < 360 ∧ u.length < 360 ∧ h.2.2 (c + 14) u.length = some (c + 23 + 2 * j) ∧ h.1 c 6 = nI (u ++ e :: w).length ∧ (u ++ e :: w).length ≤ 360 ∧ agE (rwo h (c + 23 + 2 * j)) e ∧ ∀ h' e', sm1 c h h' (c + 23 + 2 * j) → agE (rwo h' (c + 23 + 2 * j)) e' → cvE c h' (u ++ e' :: w) := by
  obtain ⟨p, Le, v1, v2⟩ := v
  obtain ⟨u', a, w', e1, a1, a2, a3⟩ := v2.mid
  have hl := v2.len
  subst e1
  obtain ⟨m1, m2, m3, m4⟩ := v1.mid
  have l1 := a1.len
  refine ⟨p u'.length, m2, by omega, by rw [← l1]; exact m3, by rw [← hl]; exact v1.2.2.2.1, by rw [← hl]; exact v1.2.2.1, by rw [m4]; exact a2, fun h' e' q q2 => ?_⟩
  refine ⟨p, u' ++ rwo h' (c + 23 + 2 * p u'.length) :: w', v1.st ?_ (fun i hi => ?_) (fun j hj hne => rwo_sm q hj hne) rfl, a1.app ⟨q2, a3⟩⟩
  · exact (q c 6 rg_c6 (by omega)).1
  · exact (q (c + 14) i rg_14 (by omega)).2.2
theorem cvE_slot {L : List En} (v : cvE c h L) (hl : L.length < 360) : ∃ j, j < 360 ∧ h.2.2 (c + 14) L.length = some (c + 23 + 2 * j) ∧ h.1 c 6 = nI L.length ∧ (∀ h', sm1 c h h' (c + 23 + 2 * j) → cvE c h' L) ∧ ∀ h1 h' e, sm1 c h h1 (c + 23 + 2 * j) → h' = sI h1 c 6 (nI (L.length + 1)) → agE (rwo h1 (c + 23 + 2 * j)) e → cvE c h' (L ++ [e]) := by
  obtain ⟨p, Le, v1, v2⟩ := v
  have l1 := v2.len
  have m1 := v1.1 Le.length (by omega)
  refine ⟨p Le.length, m1.1, by rw [← l1]; exact m1.2, by rw [← l1]; exact v1.2.2.2.1, fun h' q => ?_, fun h1 h' e q e1 q2 => ?_⟩
  · refine ⟨p, Le, v1.kp ((q c 6 rg_c6 (by omega)).1) (fun i hi => (q (c + 14) i rg_14 (by omega)).2.2) (fun i hi => rwo_sm q (v1.1 i (by omega)).1 (fun hh => ?_)), v2⟩
    have := v1.2.1 _ _ (by omega) (by omega) hh
    omega
  · subst e1
    refine ⟨p, Le ++ [rwo h1 (c + 23 + 2 * p Le.length)], v1.push (by omega) (by rw [rI_e, l1]) (fun i hi => (q (c + 14) i rg_14 (by omega)).2.2) (fun j hj hne => ?_) ?_, v2.app (Ag2.one q2)⟩
    · rw [← rwo_sm q hj hne]; unfold rwo; rw [rw_In (by omega)]; rfl
    · unfold rwo; rw [rw_In (by omega)]; rfl
theorem vC.eL {h' : Hp} {st : St} {L : List En} (v : vC K c h o N aw st) (q : Ch [1] c h h') (hL : cvE c h' L) : vC K c h' o N aw (q_L st L) := by
  obtain ⟨v1, v2, v3, v4, v5, v6, v7, v8, v9, v10⟩ := v
  exact ⟨v1.kp q (by simp) (by simp), now_kp v2 q (by simp), dn_kp v3 q (by simp), hL, v5.kp q (by simp), v6.kp q (by simp), v7.kp q (by simp), v8.kp q (by simp), v9.kp q (by simp), v10.kp q (by simp)⟩
theorem vC.kp4 {h' : Hp} {st : St} (v : vC K c h o N aw st) (q : Ch [4] c h h') : vC K c h' o N aw st := by
  obtain ⟨v1, v2, v3, v4, v5, v6, v7, v8, v9, v10⟩ := v
  exact ⟨v1.kp q (by simp) (by simp), now_kp v2 q (by simp), dn_kp v3 q (by simp), v4.kp q (by simp), v5.kp q (by simp), v6.kp q (by simp), v7.kp q (by simp), v8.kp q (by simp), v9.kp q (by simp), v10.kp q (by simp)⟩
theorem send_L {st : St} {L : List En} {a b : Nat} {p : Ms} : send N aw (q_L st L) a b p = q_L (send N aw st a b p) L := by
  unfold send
  show (match upL N aw (s_d st) (6 * a + b) with | none => _ | some l => _) = _
  cases upL N aw (s_d st) (6 * a + b) <;> rfl
theorem cfind_L (kc : KC K c) {L : List En} (v : cvE c h L) {nd : Nat} {nm ws : Int32} : ∀ (w u : List En) (fu : Nat), L = u ++ w → w.length < fu → f10_find_L3 K n c (nI nd) nm ws h fu (nI u.length) = some (ix u.length (fs (isE nd nm ws) w)) := by
  intro w
  induction w with
  | nil =>
    intro u fu hl hf
    obtain ⟨fu, rfl⟩ : ∃ g, fu = g + 1 := ⟨fu - 1, by omega⟩
    obtain ⟨p, Le, v1, v2⟩ := v
    have l1 := v2.len
    have l2 : L.length = u.length := by rw [hl]; simp
    have e0 : h.1 c 6 ≤ nI u.length := by rw [v1.2.2.2.1]; exact nI_le (by omega) (by have := v1.2.2.1; omega)
    simp only [f10_find_L3, if_pos e0]; rfl
  | cons e w ih =>
    intro u fu hl hf
    obtain ⟨fu, rfl⟩ : ∃ g, fu = g + 1 := ⟨fu - 1, by omega⟩
    subst hl
    obtain ⟨j, j1, j2, j3, j4, j5, j6, -⟩ := cvE_at v
    have e0 : ¬ h.1 c 6 ≤ nI u.length := by rw [j4]; exact nI_ge (by simp) (by omega)
    have e3 : inb (nI u.length) 360 = true := x_in (by omega) (by omega)
    have e4 : (nI u.length).toNatClampNeg = u.length := x_cl (by omega)
    have g0 : h.1 (c + 23 + 2 * j) 0 = e.1 0 := j6.1 0 (by omega) (by omega) (by omega)
    have g1 : h.1 (c + 23 + 2 * j) 1 = e.1 1 := j6.1 1 (by omega) (by omega) (by omega)
    have g2 : h.1 (c + 23 + 2 * j) 2 = e.1 2 := j6.1 2 (by omega) (by omega) (by omega)
    have ih := ih (u ++ [e]) fu (by simp) (by simp at hf; omega)
    rw [← len_sn (t := e)] at ih
    simp only [f10_find_L3, if_neg e0, e3, e4, j3, x_ob (kc.1 j j1), g0, g1, g2, x_gd, x_lt, nI_1]
    have fin : isE nd nm ws e = false → f10_find_L3 K n c (nI nd) nm ws h fu (nI (u.length + 1)) = some (ix u.length (fs (isE nd nm ws) (e :: w))) := fun hh => by rw [ih, ix_n hh]; simp
    by_cases c0 : e.1 0 = nI nd
    · rw [if_pos c0]
      by_cases c1 : e.1 1 = nm
      · rw [if_pos c1]
        by_cases c2 : e.1 2 = ws
        · rw [if_pos c2, ix_p (by simp [isE, c0, c1, c2])]
        · rw [if_neg c2]; exact fin (by simp [isE, c2])
      · rw [if_neg c1]; exact fin (by simp [isE, c1])
    · rw [if_neg c0]; exact fin (by simp [isE, c0])
theorem cvE_len {L : List En} (v : cvE c h L) : L.length ≤ 360 ∧ h.1 c 6 = nI L.length := by
  obtain ⟨p, Le, v1, v2⟩ := v
  have l1 := v2.len
  exact ⟨by rw [← l1]; exact v1.2.2.1, by rw [← l1]; exact v1.2.2.2.1⟩
theorem cfind (kc : KC K c) {L : List En} (v : cvE c h L) {nd : Nat} {nm ws : Int32} (hn : 400 ≤ n) : f10_find K n c (nI nd) nm ws h = some (ix 0 (fs (isE nd nm ws) L)) := by
  have := (cvE_len v).1
  exact cfind_L kc v L [] n rfl (by omega)
/-- an entry at an address gets one more that waits for it -/
theorem cjoin {a k : Nat} {e : En} {fr : Option Nat} (hf : ∀ f, fr = some f → f < 32) (ha : agE (rwo h a) e) : ∃ h', f6_join K n a (oI fr) (nI k) h = some h' ∧ agE (rwo h' a) (eJoin e fr k) ∧ (∀ x, x ≠ a → ∀ i, h'.1 x i = h.1 x i ∧ h'.2.1 x i = h.2.1 x i) ∧ h'.2.2 = h.2.2 := by
  obtain ⟨a1, a4, a5⟩ := ha
  have a4 : h.2.1 a 4 = e.2 4 := a4
  have a5 : h.2.1 a 5 = e.2 5 := a5
  cases fr with
  | none =>
    refine ⟨sL (sL h a 5 (e.2 5 ||| pL k)) a 4 (e.2 4 ||| pL k), ?_, ⟨fun i h1 h2 h3 => a1 i h1 h2 h3, ?_, ?_⟩, fun x hx i => ⟨rfl, ?_⟩, rfl⟩
    · simp only [f6_join, oI, x_lt, if_true, a5]
      rw [rL_n (by omega), a4]; rfl
    · show (sL (sL h a 5 (e.2 5 ||| pL k)) a 4 (e.2 4 ||| pL k)).2.1 a 4 = _
      rw [rL_e]; rfl
    · show (sL (sL h a 5 (e.2 5 ||| pL k)) a 4 (e.2 4 ||| pL k)).2.1 a 5 = _
      rw [rL_n (by omega), rL_e]; rfl
    · rw [rL_n (Or.inl hx), rL_n (Or.inl hx)]
  | some f =>
    have := hf f rfl
    refine ⟨sI (sL h a 5 (e.2 5 ||| pL k)) a 3 (e.1 3 ||| pI f), ?_, ⟨fun i h1 h2 h3 => ?_, ?_, ?_⟩, fun x hx i => ⟨?_, ?_⟩, rfl⟩
    · have a3 : h.1 a 3 = e.1 3 := a1 3 (by omega) (by omega) (by omega)
      simp only [f6_join, oI, x_lt, x_nm1 (show f < 2147483648 by omega), if_false, a5]
      rw [rL_i, a3]; rfl
    · show (sI (sL h a 5 (e.2 5 ||| pL k)) a 3 (e.1 3 ||| pI f)).1 a i = _
      by_cases hi : i = 3
      · subst hi; rw [rI_e]; rfl
      · rw [rI_n (Or.inr hi), rL_i]
        show _ = if i = 3 then _ else _
        rw [if_neg hi]; exact a1 i h1 h2 h3
    · show (sL h a 5 (e.2 5 ||| pL k)).2.1 a 4 = _
      rw [rL_n (by omega)]; exact a4
    · show (sL h a 5 (e.2 5 ||| pL k)).2.1 a 5 = _
      rw [rL_e]; rfl
    · rw [rI_n (Or.inl hx), rL_i]
    · show (sL h a 5 (e.2 5 ||| pL k)).2.1 x i = _
      rw [rL_n (Or.inl hx)]
theorem x_pI {t : Nat} : (1 : Int32) <<< (nI t &&& 31) = pI t := rfl
theorem x_pL {t : Nat} : (1 : Int64) <<< ((nI t).toInt64 &&& 63) = pL t := rfl
theorem cgoOn {A j nd nm : Nat} {e : En} {st : St} (ok : nOk N) (kc : KC K c) (hj : j < 360) (hA : A = c + 23 + 2 * j) (v : vC K c h o N aw st) (ha : agE (rwo h A) e) (e0 : e.1 0 = nI nd) (e1 : e.1 1 = nI nm) (hnd : nd < 6) (hnm : nm < 531441) (hF : (s_F st).length < 360) (hn : 20 ≤ n) {L6 : Nat → List En} (hL : ∀ t h', sm1 c h h' A → agE (rwo h' A) (eOut e t (s_n st)) → cvE c h' (L6 t)) :
    match bw N aw (s_d st) (s_M st) nd nm (e.1 3 ||| e.1 8) with
    | none => f10_goOn K n c A h = some (0, h)
    | some t => ∃ h', f10_goOn K n c A h = some (1, h') ∧ vC K c h' o N aw (send N aw (q_L st (L6 t)) nd t (plI (e.1 1) (e.1 2) (e.1 6))) ∧ Ch [1, 2, 4, 9] c h h' ∧ sm1 c h h' A ∧ agE (rwo h' A) (eOut e t (s_n st)) := by
  obtain ⟨v1, v2, v3, v4, v5, v6, v7, v8, v9, v10⟩ := id v
  have rg : ∀ k, rgC c A k = 1 := fun k => by rw [hA]; exact rg_e hj
  have g0 : h.1 A 0 = nI nd := (ha.1 0 (by omega) (by omega) (by omega)).trans e0
  have g1 : h.1 A 1 = nI nm := (ha.1 1 (by omega) (by omega) (by omega)).trans e1
  have g2 : h.1 A 2 = e.1 2 := ha.1 2 (by omega) (by omega) (by omega)
  have g3 : h.1 A 3 = e.1 3 := ha.1 3 (by omega) (by omega) (by omega)
  have g6 : h.1 A 6 = e.1 6 := ha.1 6 (by omega) (by omega) (by omega)
  have g8 : h.1 A 8 = e.1 8 := ha.1 8 (by omega) (by omega) (by omega)
  have bb := cbest (n := n) ok v1.1 v3 v6 (bar := e.1 3 ||| e.1 8) hnd hnm hn
  cases hb : bw N aw (s_d st) (s_M st) nd nm (e.1 3 ||| e.1 8) with
  | none =>
    rw [hb] at bb
    simp only [f10_goOn, g0, g1, g3, g8, bb, x_bp, oI, if_true]
  | some t =>
    rw [hb] at bb
    have ht := bw_lt ok hb
    have b0 := ok.1
    obtain ⟨h6, e6⟩ : ∃ h6, h6 = sI (sI (sI h A 7 (nI t)) A 8 (e.1 8 ||| pI t)) A 9 (nI (s_n st)) := ⟨_, rfl⟩
    obtain ⟨h10, e10⟩ : ∃ h10, h10 = sI (sI (sI (sI h6 (c + 17) 0 0) (c + 17) 4 (nI nm)) (c + 17) 5 (e.1 2)) (c + 17) 6 (e.1 6) := ⟨_, rfl⟩
    have q6 : sm1 c h h6 A := by rw [e6]; exact sm1.I (sm1.I (sm1.I sm1.rf))
    have ch6 : Ch [1] c h h6 := by rw [e6]; exact Ch.I 1 (rg _) (by simp) (Ch.I 1 (rg _) (by simp) (Ch.I 1 (rg _) (by simp) Ch.rf))
    have ag6 : agE (rwo h6 A) (eOut e t (s_n st)) := by
      refine ⟨fun i h1 h2 h3 => ?_, by rw [e6]; exact ha.2.1, by rw [e6]; exact ha.2.2⟩
      show h6.1 A i = if i = 7 then nI t else if i = 8 then e.1 8 ||| pI t else if i = 9 then nI (s_n st) else e.1 i
      rw [e6]
      by_cases i7 : i = 7
      · subst i7; rw [rI_n (by omega), rI_n (by omega), rI_e, if_pos rfl]
      by_cases i8 : i = 8
      · subst i8; rw [rI_n (by omega), rI_e, if_neg (by omega), if_pos rfl]
      by_cases i9 : i = 9
      · subst i9; rw [rI_e, if_neg (by omega), if_neg (by omega), if_pos rfl]
      rw [rI_n (by omega), rI_n (by omega), rI_n (by omega), if_neg i7, if_neg i8, if_neg i9]; exact ha.1 i h1 h2 h3
    have vv6 : vC K c h6 o N aw (q_L st (L6 t)) := v.eL ch6 (hL t h6 q6 ag6)
    have ch10 : Ch [4] c h6 h10 := by rw [e10]; exact Ch.I 4 rg_17 (by simp) (Ch.I 4 rg_17 (by simp) (Ch.I 4 rg_17 (by simp) (Ch.I 4 rg_17 (by simp) Ch.rf)))
    have vv10 := vv6.kp4 ch10
    have w10 : cvQ c h10 (plI (e.1 1) (e.1 2) (e.1 6)) := by
      refine agP_of ?_ ?_ (fun _ => ⟨?_, ?_⟩) (fun hh => absurd hh (by decide : ¬ (0 : Int32) = 1)) (fun hh => absurd hh (by decide : ¬ (0 : Int32) = 2))
      · rw [e10, rI_n (by omega), rI_n (by omega), rI_n (by omega), rI_e]; rfl
      · rw [e10, rI_n (by omega), rI_n (by omega), rI_e, ← e1]; rfl
      · rw [e10, rI_n (by omega), rI_e]; rfl
      · rw [e10, rI_e]; rfl
    obtain ⟨h', s1, s2, s3⟩ := csend (n := n) (st := q_L st (L6 t)) (a := nd) (b := t) ok kc hnd (by omega) hF vv10 w10
    refine ⟨h', ?_, s2, ?_, ?_, ?_⟩
    · have ne : ¬ nI t = (-1 : Int32) := by rw [x_nm1 (by omega)]; exact not_false
      simp only [f10_goOn, g0, g1, g3, g8, bb, x_bp, oI, if_neg ne, x_lt, x_pI]
      simp (disch := omega) only [rI_n, rI_e, g0, g1, g2, g6, g8, v2]
      rw [← e6, ← e10, s1, x_bp]
    · exact ((ch6.up (by simp)).tr (ch10.up (by simp))).tr (s3.up (by simp))
    · exact (q6.tr (sm1.ch ch10 (by simp))).tr (sm1.ch s3 (by simp))
    · have : rwo h' A = rwo h6 A := by
        have r1 := s3.row (a := A) (fun k => by rw [rg]; simp)
        have r2 := ch10.row (a := A) (fun k => by rw [rg]; simp)
        rw [r1, r2]
      rw [this]; exact ag6
end CEnt
