/-! the class makes an entry; an interest is met, or makes one -/
section CInt
variable {K : Ly} {n c o : Nat} {h : Hp} {N : Nat → Nat} {aw : Int32}
theorem answ_n {st : St} {nd k : Nat} {fr : Option Nat} {p : Ms} : s_n (answ N aw st nd fr k p) = s_n st := by
  cases fr with
  | none => rfl
  | some f =>
    show s_n (send N aw st nd f p) = _
    unfold send
    cases upL N aw (s_d st) (6 * nd + f) <;> rfl
theorem cmake {nd k nm : Nat} {fr : Option Nat} {ws : Int32} {st : St} (ok : nOk N) (kc : KC K c) (hnd : nd < 6) (hnm : nm < 531441) (hk : k < 60) (hf : ∀ f, fr = some f → f < 6) (hF : (s_F st).length < 360) (hL : (s_L st).length < 360) (hn : 20 ≤ n) (v : vC K c h o N aw st) : ∃ h', f10_makeEntry K n c (nI nd) (oI fr) (nI nm) ws (nI k) h = some h' ∧ vC K c h' o N aw (makeE N aw st nd fr nm ws k) ∧ Ch [1, 2, 4, 8, 9] c h h' := by
  obtain ⟨v1, v2, v3, v4, v5, v6, v7, v8, v9, v10⟩ := id v
  obtain ⟨⟨n1, n2, n3, n4⟩, n5⟩ := id v1
  obtain ⟨j, j1, j2, j3, j4, j5⟩ := cvE_slot v4 hL
  have g1 : (nI (s_L st).length < (360 : Int32)) := by rw [l_360]; exact nI_lt (by omega) (by omega)
  have g3 : inb (nI (s_L st).length) 360 = true := x_in (by omega) (by omega)
  have g4 : (nI (s_L st).length).toNatClampNeg = (s_L st).length := x_cl (by omega)
  obtain ⟨A, hA⟩ : ∃ A, A = c + 23 + 2 * j := ⟨_, rfl⟩
  rw [← hA] at j2 j4 j5
  have rg : ∀ k, rgC c A k = 1 := fun k => by rw [hA]; exact rg_e j1
  have kA : K A = some (.inl 6) := by rw [hA]; exact kc.1 j j1
  obtain ⟨h14, e14⟩ : ∃ h14, h14 = sI (sI (sI (sI (sL (sL (sI (sI (sI (sI h A 0 (nI nd)) A 1 (nI nm)) A 2 ws) A 3 0) A 4 0) A 5 0) A 6 (nI k)) A 7 (-1)) A 8 0) A 10 (nI (s_n st + N 1)) := ⟨_, rfl⟩
  let e0 : En := mkE (nI nd) (nI nm) ws 0 (nI k) (-1) 0 (h.1 A 9) (nI (s_n st + N 1)) 0 0
  have q14 : sm1 c h h14 A := by rw [e14]; exact sm1.I (sm1.I (sm1.I (sm1.I (sm1.L (sm1.L (sm1.I (sm1.I (sm1.I (sm1.I sm1.rf)))))))))
  have c14 : Ch [1] c h h14 := by rw [e14]; exact Ch.I 1 (rg _) (by simp) (Ch.I 1 (rg _) (by simp) (Ch.I 1 (rg _) (by simp) (Ch.I 1 (rg _) (by simp) (Ch.L 1 (rg _) (by simp) (Ch.L 1 (rg _) (by simp) (Ch.I 1 (rg _) (by simp) (Ch.I 1 (rg _) (by simp) (Ch.I 1 (rg _) (by simp) (Ch.I 1 (rg _) (by simp) Ch.rf)))))))))
  have ag14 : agE (rwo h14 A) e0 := by
    rw [e14]
    refine ⟨fun i h1 h2 h3 => ?_, ?_, ?_⟩
    · match i, h1 with
      | 0, _ => simp (disch := omega) only [rwo, rI_n, rI_e, rL_i]; rfl
      | 1, _ => simp (disch := omega) only [rwo, rI_n, rI_e, rL_i]; rfl
      | 2, _ => simp (disch := omega) only [rwo, rI_n, rI_e, rL_i]; rfl
      | 3, _ => simp (disch := omega) only [rwo, rI_n, rI_e, rL_i]; rfl
      | 4, _ => omega
      | 5, _ => omega
      | 6, _ => simp (disch := omega) only [rwo, rI_n, rI_e, rL_i]; rfl
      | 7, _ => simp (disch := omega) only [rwo, rI_n, rI_e, rL_i]; rfl
      | 8, _ => simp (disch := omega) only [rwo, rI_n, rI_e, rL_i]; rfl
      | 9, _ => simp (disch := omega) only [rwo, rI_n, rI_e, rL_i]; rfl
      | 10, _ => simp (disch := omega) only [rwo, rI_n, rI_e, rL_i]; rfl
      | i + 11, h => omega
    · show (sL (sL (sI (sI (sI (sI h A 0 (nI nd)) A 1 (nI nm)) A 2 ws) A 3 0) A 4 0) A 5 0).2.1 A 4 = 0
      rw [rL_n (by omega), rL_e]
    · show (sL (sL (sI (sI (sI (sI h A 0 (nI nd)) A 1 (nI nm)) A 2 ws) A 3 0) A 4 0) A 5 0).2.1 A 5 = 0
      rw [rL_e]
  obtain ⟨h16, t1, t2, t3, t4⟩ := cjoin (K := K) (n := n) (k := k) (fr := fr) (fun f hh => by have := hf f hh; omega) ag14
  have q16 : sm1 c h h16 A := q14.tr (fun x i hx hi => ⟨(t3 x hi i).1, (t3 x hi i).2, by rw [t4]⟩)
  have c16 : Ch [1] c h h16 := c14.tr (fun x i hx => by
    by_cases hxa : x = A
    · exfalso; apply hx; rw [hxa, rg]; simp
    · exact ⟨(t3 x hxa i).1, (t3 x hxa i).2, by rw [t4]⟩)
  have vv : vC K c h16 o N aw (q_L st (s_L st)) := v.eL c16 (j4 h16 q16)
  have vv : vC K c h16 o N aw st := vv
  let e1 : En := eJoin e0 fr k
  have z0 : e1.1 0 = nI nd := by show (eJoin e0 fr k).1 0 = _; cases fr <;> rfl
  have z1 : e1.1 1 = nI nm := by show (eJoin e0 fr k).1 1 = _; cases fr <;> rfl
  have z2 : e1.1 2 = ws := by show (eJoin e0 fr k).1 2 = _; cases fr <;> rfl
  have z6 : e1.1 6 = nI k := by show (eJoin e0 fr k).1 6 = _; cases fr <;> rfl
  have z3 : e1.1 3 ||| e1.1 8 = (newE N st nd fr nm ws k).1 3 := by
    show (eJoin e0 fr k).1 3 ||| (eJoin e0 fr k).1 8 = _
    have : ∀ x : Int32, x ||| 0 = x := fun x => by simp
    cases fr with
    | none => exact this _
    | some f => exact this _
  have go := cgoOn (n := n) ok kc j1 hA vv t2 z0 z1 hnd hnm hF hn (L6 := fun _ => s_L st) (fun t h' q _ => j4 h' (q16.tr q))
  rw [z3] at go
  have pre : f10_makeEntry K n c (nI nd) (oI fr) (nI nm) ws (nI k) h = bd (f10_goOn K n c A h16) fun y19 h18 =>
    if y19 = 0 then (
    bp (f10_sayNack K n c (nI nm) ws (1 : Int32) (nI nd) h18) fun h22 =>
    bp (f10_answer K n c (nI nd) (oI fr) (nI k) h22) fun h24 =>
    some h24)
    else (
    lt (sI h18 c 6 ((h18.1 c 6) + (1 : Int32))) fun h25 =>
    some h25) := by
    simp only [f10_makeEntry, j3, if_pos g1, g3, g4, x_gd, j2, x_ob kA, x_lt, rI_r, rL_r, n1, x_ob n2]
    simp (disch := omega) only [rI_n, rL_i, v2, n3.1 1 (show 1 < 5 by omega), nI_add]
    rw [← e14, t1, x_bp]
  rw [pre]
  unfold makeE
  cases hb : bw N aw (s_d st) (s_M st) nd nm ((newE N st nd fr nm ws k).1 3) with
  | none =>
    rw [hb] at go
    have go : f10_goOn K n c A h16 = some (0, h16) := go
    obtain ⟨h22, a1, a2, a3⟩ := csayN (K := K) (n := n) (c := c) (h := h16) (nm := nI nm) (ws := ws) (root := 1) (nd := nd)
    obtain ⟨h24, b1, b2, b3⟩ := cansw (n := n) (nd := nd) (fr := fr) (k := k) ok kc hnd (fun f hh => ⟨hf f hh, hF⟩) hk (Or.inr rfl) (vv.kp4 a3) a2
    refine ⟨h24, ?_, b2, ((c16.up (by simp)).tr (a3.up (by simp))).tr (b3.up (by simp))⟩
    rw [go, x_bd, if_pos rfl, a1, x_bp, b1, x_bp]
  | some t =>
    rw [hb] at go
    obtain ⟨h18, a1, a2, a3, a4, a5⟩ := go
    have w6 : h18.1 c 6 = nI (s_L st).length := (cvE_len a2.2.2.2.1).2.trans (by rw [send_L]; rfl)
    refine ⟨sI h18 c 6 (nI ((s_L st).length + 1)), ?_, ?_, ?_⟩
    · rw [a1, x_bd, if_neg (by decide), w6, nI_1, x_lt]
    · dsimp only
      rw [send_L] at a2 ⊢
      have cc : Ch [1] c h18 (sI h18 c 6 (nI ((s_L st).length + 1))) := Ch.I 1 rg_c6 (by simp) Ch.rf
      rw [z1, z2, z6] at a2
      have hE := j5 h18 _ (eOut (newE N st nd fr nm ws k) t (s_n st)) (q16.tr a4) rfl (by
        obtain ⟨p1, p2, p3⟩ := a5
        refine ⟨fun i i1 i2 i3 => ?_, ?_, ?_⟩
        · rw [p1 i i1 i2 i3]
          match i, i1 with
          | 0, _ => cases fr <;> rfl
          | 1, _ => cases fr <;> rfl
          | 2, _ => cases fr <;> rfl
          | 3, _ => cases fr <;> rfl
          | 4, _ => omega
          | 5, _ => omega
          | 6, _ => cases fr <;> rfl
          | 7, _ => cases fr <;> rfl
          | 8, _ => cases fr <;> rfl
          | 9, _ => cases fr <;> rfl
          | 10, _ => cases fr <;> rfl
          | i + 11, h => omega
        · rw [p2]; cases fr <;> rfl
        · rw [p3]; cases fr <;> rfl)
      exact a2.eL cc hE
    · exact ((c16.up (by simp)).tr (a3.up (by simp))).tr ((Ch.I 1 rg_c6 (by simp) Ch.rf : Ch [1] c h18 _).up (by simp))
end CInt
