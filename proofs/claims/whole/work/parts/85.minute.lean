/-! a minute goes by, on both sides -/
def late (now : Nat) (q : Ms) : Bool := !(decide (q 3 = nI now))
section Minute
variable {K1 K2 : Ly} {n c o m j : Nat} {N : Nat → Nat} {aw : Int32} {kb : Nat}
theorem erase_mid {α : Type} {u w : List α} {p : α} : (u ++ p :: w).eraseIdx u.length = u ++ w := by
  induction u with
  | nil => rfl
  | cons a u ih => simp [List.eraseIdx_cons_succ, ih]
theorem take_succ' {α : Type} {W : List α} {i : Nat} {p : α} (h : W[i]? = some p) : W.take (i + 1) = W.take i ++ [p] ∧ W.drop i = p :: W.drop (i + 1) := by
  obtain ⟨hi, hp⟩ := List.getElem?_eq_some_iff.mp h
  refine ⟨?_, ?_⟩
  · rw [List.take_succ, h]; rfl
  · rw [List.drop_eq_getElem_cons hi, hp]
theorem vM.qF {h : Hp} {st : St} {W F : List Ms} (v : vM m h j N aw st W) (hb : W.length ≤ F.length + 3000) : vM m h j N aw (q_F st F) W := by
  obtain ⟨v1, v2, v3, v4, v5, v6, v7, v8, v9, v10⟩ := v
  exact ⟨v1, v2, v3, v4, ⟨v5.1, hb, v5.2.2⟩, v6, v7, v8, v9, v10⟩
theorem inv_land {lo s : Nat} {st : St} {u w : List Ms} {p : Ms} (I : Inv N kb lo s st) (hl : s_F st = u ++ p :: w) : Inv N kb lo (s + 1) (q_F st (u ++ w)) ∧ pG N kb lo (s_B st) p := by
  obtain ⟨i0, i1, i2, i3, i4, i5, i6, i7, i8, i9, G, g1, g2, g3, g4, g5⟩ := I
  refine ⟨⟨i0, i1, i2, fun q hq => i3 q ?_, i4, i5, i6, i7, i8, i9, G, g1, g2, g3, ?_, g5⟩, i3 p (by rw [hl]; simp)⟩
  · have hq : q ∈ u ++ w := hq
    rw [hl]; rcases List.mem_append.mp hq with hq | hq <;> simp [hq]
  · rw [hl] at g4
    show (u ++ w).length + cbL (s_L st) + (s + 1) ≤ cG G
    simp at g4 ⊢; omega
theorem both_ld (ok : nOk N) (kc : KC K1 c) (hn : 5000 ≤ n) (now there : Nat) (ht : there ≤ 360) : ∀ (d i fu fu' : Nat) (h1 h2 : Hp) (st : St) (W : List Ms), i + d = there → d < fu → d < fu' → there ≤ W.length → s_F st = (W.take i).filter (late now) ++ W.drop i → W.length ≤ (s_F st).length + i → (∀ q ∈ W, ∃ x, now ≤ x ∧ x ≤ 200 ∧ q 3 = nI x) → (∀ q ∈ W.drop there, nd1 now q) → s_n st = now → vC K1 c h1 o N aw st → vM m h2 j N aw st W → Inv N kb now 0 st → ∃ (h1' h2' : Hp) (st' : St) (W' : List Ms), f10_passMinute_L21 K1 n c fu (nI ((W.take i).filter (late now)).length) (nI d) h1 = some h1' ∧ f11_goesBy_L21 K2 n m (nI there) fu' (nI i) h2 = f11_goesBy_L54 K2 n m n (nI 0) (nI 0) h2' ∧ vC K1 c h1' o N aw st' ∧ vM m h2' j N aw st' W' ∧ Inv N kb now 0 st' ∧ s_n st' = now ∧ s_d st' = s_d st ∧ s_F st' = W'.filter (late now) ∧ W'.length ≤ 2000 ∧ (∀ q ∈ W', ∃ x, now ≤ x ∧ x ≤ 200 ∧ q 3 = nI x) ∧ Ch RC c h1 h1' ∧ ChM RX m h2 h2' ∧ ∀ k, s_B st' k 8 = s_B st k 8 := by
  intro d
  induction d with
  | zero =>
    intro i fu fu' h1 h2 st W hi hf hf' hW hF hWF hdue hnew hnw vc vm I
    obtain ⟨fu, rfl⟩ : ∃ g, fu = g + 1 := ⟨fu - 1, by omega⟩
    obtain ⟨fu', rfl⟩ : ∃ g, fu' = g + 1 := ⟨fu' - 1, by omega⟩
    have it : i = there := by omega
    subst it
    have IF := I.F
    refine ⟨h1, h2, st, W, ?_, ?_, vc, vm, I, hnw, rfl, ?_, by omega, hdue, Ch.rf, ChM.rf, fun _ => rfl⟩
    · have e1 : nI 0 ≤ (0 : Int32) := by decide
      simp only [f10_passMinute_L21, if_pos e1]
    · have e1 : nI i ≤ nI i := nI_le (Nat.le_refl _) (by omega)
      simp only [f11_goesBy_L21, if_pos e1]; rfl
    · rw [hF]
      have : W.drop i = (W.drop i).filter (late now) := (List.filter_eq_self.mpr (fun q hq => by
        obtain ⟨x, x1, x2, x3⟩ := hnew q hq
        simp only [late, x3, Bool.not_eq_true', decide_eq_false_iff_not]
        rw [x_eq (by omega) (by omega)]; omega)).symm
      rw [this, ← List.filter_append, List.take_append_drop]
  | succ d ih =>
    intro i fu fu' h1 h2 st W hi hf hf' hW hF hWF hdue hnew hnw vc vm I
    obtain ⟨fu, rfl⟩ : ∃ g, fu = g + 1 := ⟨fu - 1, by omega⟩
    obtain ⟨fu', rfl⟩ : ∃ g, fu' = g + 1 := ⟨fu' - 1, by omega⟩
    obtain ⟨p, hp⟩ : ∃ p, W[i]? = some p := ⟨W[i]'(by omega), List.getElem?_eq_getElem _⟩
    obtain ⟨t1, t2⟩ := take_succ' hp
    have hl : s_F st = (W.take i).filter (late now) ++ p :: W.drop (i + 1) := by rw [hF, t2]
    have IF := I.F
    have WL : W.length ≤ 720 := by omega
    have e1 : ¬ nI there ≤ nI i := nI_ge (by omega) (by omega)
    have g1 : inb (nI i) 4096 = true := x_in (by omega) (by omega)
    have g2 : (nI i).toNatClampNeg = i := x_cl (by omega)
    have w35 : h2.1 (m + 35) i = p 3 := (vm.2.2.2.2.1.2.2 i p hp).2.2.2.2.1
    by_cases hd : p 3 = nI now
    · obtain ⟨I1, hpG⟩ := inv_land I hl
      obtain ⟨h1', a1, a2, a3⟩ := ctake (n := n) (left := d) (fu := fu) ok kc (by omega) hl rfl I1 (by omega) hpG (by rw [hnw]; exact hd) (by omega) vc
      have FL : (s_F st).length = ((W.take i).filter (late now) ++ W.drop (i + 1)).length + 1 := by rw [hl]; simp; omega
      have vm2 := vm.qF (F := (W.take i).filter (late now) ++ W.drop (i + 1)) (by omega)
      obtain ⟨h2', X, b1, b2, b3, b4⟩ := mcomes (K := K2) (n := n) ok (by omega) hp (by omega) I1 hpG vm2
      have tk := inv_take (aw := aw) ok I1 (show now ≤ s_n st + 1 by omega) hpG
      obtain ⟨⟨Y, y1, y2⟩, y3, y4⟩ := gr_take (aw := aw) (p := p) (st := q_F st ((W.take i).filter (late now) ++ W.drop (i + 1))) ok I1.2.1
      have XY : X = Y := by rw [b3] at y1; exact List.append_cancel_left y1
      subst XY
      have tk0 : (W ++ X).take (i + 1) = W.take (i + 1) := by rw [List.take_append_of_le_length (by omega)]
      have fl0 : (W.take (i + 1)).filter (late now) = (W.take i).filter (late now) := by
        rw [t1, List.filter_append]
        have : [p].filter (late now) = [] := by simp [late, hd]
        rw [this, List.append_nil]
      have dr0 : (W ++ X).drop (i + 1) = W.drop (i + 1) ++ X := by rw [List.drop_append_of_le_length (by omega)]
      have nn : s_n (q_F st ((W.take i).filter (late now) ++ W.drop (i + 1))) = now := hnw
      obtain ⟨k1, k2, st', W', r1, r2, r3, r4, r5, r6, r7, r8, r9, r10, r11, r12, r13⟩ := ih (i + 1) fu fu' h1' h2' (take N aw (q_F st ((W.take i).filter (late now) ++ W.drop (i + 1))) p) (W ++ X) (by omega) (by omega) (by omega) (by rw [List.length_append]; omega) (by
          rw [tk0, fl0, dr0, b3]
          show ((W.take i).filter (late now) ++ W.drop (i + 1)) ++ X = _
          rw [List.append_assoc]) (by
          rw [b3]
          show (W ++ X).length ≤ (((W.take i).filter (late now) ++ W.drop (i + 1)) ++ X).length + (i + 1)
          rw [List.length_append, List.length_append]; omega) (fun q hq => by
          rcases List.mem_append.mp hq with hq | hq
          · exact hdue q hq
          · obtain ⟨x, x1, x2, x3⟩ := y2 q hq
            rw [nn] at x1
            exact ⟨x, by omega, x2, x3⟩) (fun q hq => by
          rw [List.drop_append_of_le_length hW] at hq
          rcases List.mem_append.mp hq with hq | hq
          · exact hnew q hq
          · have := y2 q hq
            rw [nn] at this; exact this) (y3.trans nn) a2 b2 tk
      rw [tk0, fl0] at r1
      refine ⟨k1, k2, st', W', a1.trans r1, ?_, r3, r4, r5, r6, r7.trans y4, r8, r9, r10, a3.tr r11, b4.tr r12, fun k => (r13 k).trans b8_take⟩
      have m27 : h2.1 m 27 = nI now := by rw [vm.2.1, hnw]
      simp only [f11_goesBy_L21, if_neg e1, g1, g2, x_gd, w35, m27, if_pos hd, b1, x_bp, x_lt, nI_1]
      exact r2
    · have fl0 : (W.take (i + 1)).filter (late now) = (W.take i).filter (late now) ++ [p] := by
        rw [t1, List.filter_append]
        have : [p].filter (late now) = [p] := by simp [late, hd]
        rw [this]
      have sk := cskip (n := n) (left := d) (fu := fu) kc hl rfl (by rw [hnw]; exact hd) (by omega) vc
      obtain ⟨k1, k2, st', W', r1, r2, r3⟩ := ih (i + 1) fu fu' h1 h2 st W (by omega) (by omega) (by omega) hW (by rw [fl0, hl, List.append_assoc]; rfl) (by omega) hdue hnew hnw vc vm I
      rw [fl0, List.length_append, List.length_cons, List.length_nil] at r1
      refine ⟨k1, k2, st', W', sk.trans r1, ?_, r3⟩
      have m27 : h2.1 m 27 = nI now := by rw [vm.2.1, hnw]
      simp only [f11_goesBy_L21, if_neg e1, g1, g2, x_gd, w35, m27, if_neg hd, x_lt, nI_1]
      exact r2
/-- ways that came are taken out of the reference's row -/
theorem mmoves {h : Hp} {i l : Nat} {p : Ms} (hi : i < 4096) (hl : l < 4096) (ag : agW h m i p) : ∃ h', f11_moves K2 n m (nI i) (nI l) h = some h' ∧ agW h' m l p ∧ (∀ a k, k ≠ l → h'.1 a k = h.1 a k) ∧ ChM [29, 30, 31, 32, 33, 34, 35, 36, 37, 38, 39] m h h' := by
  have g1 : inb (nI i) 4096 = true := x_in (by omega) (by omega)
  have g2 : (nI i).toNatClampNeg = i := x_cl (by omega)
  have g3 : inb (nI l) 4096 = true := x_in (by omega) (by omega)
  have g4 : (nI l).toNatClampNeg = l := x_cl (by omega)
  obtain ⟨h', eh⟩ : ∃ h', h' = sI (sI (sI (sI (sI (sI (sI (sI (sI (sI (sI h (m + 29) l (h.1 (m + 29) i)) (m + 30) l (h.1 (m + 30) i)) (m + 31) l (h.1 (m + 31) i)) (m + 32) l (h.1 (m + 32) i)) (m + 33) l (h.1 (m + 33) i)) (m + 34) l (h.1 (m + 34) i)) (m + 35) l (h.1 (m + 35) i)) (m + 36) l (h.1 (m + 36) i)) (m + 37) l (h.1 (m + 37) i)) (m + 38) l (h.1 (m + 38) i)) (m + 39) l (h.1 (m + 39) i) := ⟨_, rfl⟩
  refine ⟨h', ?_, ?_, fun a k hk => ?_, ?_⟩
  · unfold f11_moves
    simp only [g1, g2, g3, g4, x_gd, x_lt]
    simp (disch := omega) only [rI_n]
    rw [← eh]
  · unfold agW at ag ⊢
    rw [eh]
    simp (disch := omega) only [rI_n, rI_e]
    exact ag
  · rw [eh]; simp (disch := omega) only [rI_n]
  · rw [eh]
    exact ChM.A (by omega) (by simp) (ChM.A (by omega) (by simp) (ChM.A (by omega) (by simp) (ChM.A (by omega) (by simp) (ChM.A (by omega) (by simp) (ChM.A (by omega) (by simp) (ChM.A (by omega) (by simp) (ChM.A (by omega) (by simp) (ChM.A (by omega) (by simp) (ChM.A (by omega) (by simp) (ChM.A (by omega) (by simp) ChM.rf))))))))))
theorem agW_kp {h h' : Hp} {i : Nat} {p : Ms} (ag : agW h m i p) (e : ∀ a, h'.1 a i = h.1 a i) : agW h' m i p := by
  unfold agW at ag ⊢
  simp only [e]; exact ag
theorem mcomp {now : Nat} (hnow : now ≤ 99) : ∀ (w dn u : List Ms) (fu : Nat) (h : Hp), (dn ++ w).length ≤ 4000 → u.length ≤ dn.length → w.length < fu → h.1 m 45 = nI (dn ++ w).length → h.1 m 27 = nI now → (∀ i p, u[i]? = some p → agW h m i p) → (∀ i p, w[i]? = some p → agW h m (dn.length + i) p) → (∀ q ∈ w, ∃ x, now ≤ x ∧ x ≤ 200 ∧ q 3 = nI x) → ∃ h', f11_goesBy_L54 K2 n m fu (nI u.length) (nI dn.length) h = some h' ∧ h'.1 m 45 = nI (u ++ w.filter (late now)).length ∧ (∀ i p, (u ++ w.filter (late now))[i]? = some p → agW h' m i p) ∧ ChM [29, 30, 31, 32, 33, 34, 35, 36, 37, 38, 39, 145] m h h' := by
  intro w
  induction w with
  | nil =>
    intro dn u fu h hW hu hf h45 h27 hU hw hd
    obtain ⟨fu, rfl⟩ : ∃ g, fu = g + 1 := ⟨fu - 1, by omega⟩
    rw [List.append_nil] at h45 hW
    have e1 : nI dn.length ≤ nI dn.length := nI_le (Nat.le_refl _) (by omega)
    refine ⟨sI h m 45 (nI u.length), ?_, ?_, fun i p hp => ?_, ChM.F (by simp) ChM.rf⟩
    · simp only [f11_goesBy_L54, h45, if_pos e1, x_lt]
    · rw [rI_e]; simp
    · simp only [List.filter_nil, List.append_nil] at hp
      exact (hU i p hp).kp (ChM.F (by simp) ChM.rf : ChM [145] m h _) (by decide)
  | cons q w ih =>
    intro dn u fu h hW hu hf h45 h27 hU hw hd
    obtain ⟨fu, rfl⟩ : ∃ g, fu = g + 1 := ⟨fu - 1, by omega⟩
    have WL : dn.length + 1 + w.length ≤ 4000 := by simp at hW; omega
    have e1 : ¬ nI (dn ++ q :: w).length ≤ nI dn.length := nI_ge (by simp) (by simp; omega)
    have g1 : inb (nI dn.length) 4096 = true := x_in (by omega) (by omega)
    have g2 : (nI dn.length).toNatClampNeg = dn.length := x_cl (by omega)
    have aq := hw 0 q (by simp)
    rw [Nat.add_zero] at aq
    have a35 := aq.2.2.2.2.1
    obtain ⟨x, x1, x2, x3⟩ := hd q (by simp)
    rw [x3] at a35
    by_cases hx : x = now
    · have e2 : nI x ≤ nI now := by rw [hx]; exact nI_le (Nat.le_refl _) (by omega)
      obtain ⟨h', r1, r2, r3, r4⟩ := ih (dn ++ [q]) u fu h (by simp; omega) (by simp; omega) (by simp at hf; omega) (by rw [h45]; simp) h27 hU (fun i p hp => by
        have := hw (i + 1) p (by simpa using hp)
        rw [show dn.length + (i + 1) = (dn ++ [q]).length + i by simp; omega] at this; exact this) (fun a ha => hd a (by simp [ha]))
      have fl : (q :: w).filter (late now) = w.filter (late now) := List.filter_cons_of_neg (by simp [late, x3, hx])
      rw [fl]
      refine ⟨h', ?_, r2, r3, r4⟩
      rw [← len_sn (t := q)] at r1
      simp only [f11_goesBy_L54, h45, if_neg e1, g1, g2, x_gd, a35, h27, if_pos e2, x_lt, nI_1]
      exact r1
    · have e2 : ¬ nI x ≤ nI now := nI_ge (by omega) (by omega)
      obtain ⟨h1, m1, m2, m3, m4⟩ := mmoves (K2 := K2) (n := n) (i := dn.length) (l := u.length) (by omega) (by omega) aq
      have lt0 : (q :: w).filter (late now) = q :: w.filter (late now) := List.filter_cons_of_pos (by
        simp only [late, x3, Bool.not_eq_true', decide_eq_false_iff_not]
        rw [x_eq (by omega) (by omega)]; omega)
      obtain ⟨h', r1, r2, r3, r4⟩ := ih (dn ++ [q]) (u ++ [q]) fu h1 (by simp; omega) (by simp; omega) (by simp at hf; omega) (by rw [m4.f (by simp), h45]; simp) (by rw [m4.f (by simp), h27]) (fun i p hp => by
        by_cases hi : i < u.length
        · rw [List.getElem?_append_left hi] at hp
          exact agW_kp (hU i p hp) (fun a => m3 a i (by omega))
        · have hi2 : i = u.length := by
            have := (List.getElem?_eq_some_iff.mp hp).1
            simp at this; omega
          subst hi2
          rw [ge_mid] at hp; cases hp; exact m2) (fun i p hp => by
        have := hw (i + 1) p (by simpa using hp)
        rw [show dn.length + (i + 1) = (dn ++ [q]).length + i by simp; omega] at this
        exact agW_kp this (fun a => m3 a _ (by simp; omega))) (fun a ha => hd a (by simp [ha]))
      rw [lt0]
      refine ⟨h', ?_, by rw [r2]; simp, fun i p hp => r3 i p (by rw [← hp]; simp), (m4.up (by decide)).tr r4⟩
      rw [← len_sn (t := q), ← len_sn (t := q)] at r1
      simp only [f11_goesBy_L54, h45, if_neg e1, g1, g2, x_gd, a35, h27, if_neg e2, m1, x_bp, x_lt, nI_1]
      exact r1
end Minute
