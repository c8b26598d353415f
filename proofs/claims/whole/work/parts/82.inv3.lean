/-! the invariant is kept: entries that are closed or end; messages that come -/
section Inv3
variable {N : Nat → Nat} {aw : Int32} {kb lo s : Nat} {st : St}
theorem clN_X {nd : Nat} {x : Int32} {p : Ms} {B : Nat → Nat → Int32} (ok : nOk N) (hnd : nd < N 0) (hx : ∀ i, bI x i = true → i < N 0) (hp : plG kb B p) : ∀ (d i : Nat) (st : St), lo ≤ s_n st + 1 → s_n st ≤ 99 → s_B st = B → ∃ X, s_F (clN N aw nd x p d i st) = s_F st ++ X ∧ X.length ≤ cb x d i ∧ ∀ q ∈ X, pG N kb lo B q := by
  intro d
  induction d with
  | zero => exact fun i st _ _ _ => ⟨[], by simp [clN], by simp [cb], fun q hq => by cases hq⟩
  | succ d ih =>
    intro i st hlo hn hB
    simp only [clN, cb]
    by_cases hb : bI x i = true
    · rw [if_pos hb, if_pos hb]
      obtain ⟨X1, x1, x2, x3⟩ := send_X (aw := aw) (a := nd) (b := i) (p := p) (kb := kb) ok hnd (hx i hb) hlo hn (by rw [hB]; exact hp)
      have sk := send_k (N := N) (aw := aw) (st := st) (a := nd) (b := i) (p := p)
      obtain ⟨X2, y1, y2, y3⟩ := ih (i + 1) (send N aw st nd i p) (by rw [sk.1]; exact hlo) (by rw [sk.1]; exact hn) (sk.2.2.2.2.2.2.trans hB)
      refine ⟨X1 ++ X2, by rw [y1, x1, List.append_assoc], by rw [List.length_append]; omega, fun q hq => ?_⟩
      rcases List.mem_append.mp hq with hq | hq
      · rw [← hB]; exact x3 q hq
      · exact y3 q hq
    · rw [if_neg hb, if_neg hb]
      obtain ⟨X2, y1, y2, y3⟩ := ih (i + 1) st hlo hn hB
      exact ⟨X2, y1, by omega, y3⟩
theorem clS_B {x : Int64} {p : Ms} : ∀ (d k : Nat) (st : St) (i : Nat), s_B (clS x p d k st) i = if (k ≤ i ∧ i < k + d) ∧ bL x i = true then fSet (s_B st i) (s_n st) p else s_B st i := by
  intro d
  induction d with
  | zero => intro k st i; rw [if_neg (by omega)]; rfl
  | succ d ih =>
    intro k st i
    simp only [clS]
    rw [ih]
    by_cases hb : bL x k = true
    · rw [if_pos hb]
      by_cases hik : i = k
      · subst hik
        rw [if_neg (by omega), if_pos ⟨by omega, hb⟩]
        show ug (s_B st) i _ i = _
        rw [ug_e]
      · have e1 : s_B (settle st k p) i = s_B st i := by show ug (s_B st) k _ i = _; rw [ug_n hik]
        rw [e1, show s_n (settle st k p) = s_n st from rfl]
        by_cases hc : (k + 1 ≤ i ∧ i < k + 1 + d) ∧ bL x i = true
        · rw [if_pos hc, if_pos ⟨by omega, hc.2⟩]
        · rw [if_neg hc, if_neg (fun hh => hc ⟨by omega, hh.2⟩)]
    · rw [if_neg hb]
      by_cases hc : (k + 1 ≤ i ∧ i < k + 1 + d) ∧ bL x i = true
      · rw [if_pos hc, if_pos ⟨by omega, hc.2⟩]
      · rw [if_neg hc, if_neg (fun hh => hc ⟨by
          have : i ≠ k := fun h2 => hb (h2 ▸ hh.2)
          omega, hh.2⟩)]
theorem inv_close {nd : Nat} {u w : List En} {e : En} {p : Ms} (ok : nOk N) (I : Inv N kb lo s st) (hl : s_L st = u ++ e :: w) (hnd : nd < N 0) (he : e.1 0 = nI nd) (hlo : lo ≤ s_n st + 1) (hp : p 0 = 1 ∨ p 0 = 2) (hpl : plG kb (s_B st) p) : Inv N kb lo s (q_L (clE N aw nd p st e) (u ++ w)) := by
  obtain ⟨i0, i1, i2, i3, i4, i5, i6, i7, i8, i9, G, g1, g2, g3, g4, g5⟩ := I
  have b0 := ok.1
  have he' : e ∈ s_L st := by rw [hl]; simp
  obtain ⟨v1, v2, v3, v4, v5, v6, v7, v8⟩ := i2 e he'
  obtain ⟨c1, c2, c3, c4, c5, c6⟩ := clE_k (N := N) (aw := aw) (nd := nd) (p := p) (st := st) (e := e)
  obtain ⟨X, x1, x2, x3⟩ := clN_X (aw := aw) (nd := nd) (x := e.1 3) (p := p) ok hnd v4 hpl 6 0 st hlo i1 rfl
  have xF : s_F (clE N aw nd p st e) = s_F st ++ X := by
    show s_F (clS (e.2 4) p 60 0 (clN N aw nd (e.1 3) p 6 0 st)) = _
    rw [clS_F]; exact x1
  have xB : ∀ i, s_B (clE N aw nd p st e) i = if i < 60 ∧ bL (e.2 4) i = true then fSet (s_B st i) (s_n st) p else s_B st i := fun i => by
    show s_B (clS (e.2 4) p 60 0 (clN N aw nd (e.1 3) p 6 0 st)) i = _
    rw [clS_B, (clN_k (N := N) (aw := aw) 6 0 st).2.2.2.2.2.2, (clN_k (N := N) (aw := aw) 6 0 st).1]
    by_cases hc : i < 60 ∧ bL (e.2 4) i = true
    · rw [if_pos hc, if_pos ⟨by omega, hc.2⟩]
    · rw [if_neg hc, if_neg (fun hh => hc ⟨by omega, hh.2⟩)]
  have h8 : sB8 (s_B st) (s_B (clE N aw nd p st e)) := fun k i hi => by
    rw [xB]; split
    · exact fSet_8 hi
    · rfl
  have sub : ∀ a ∈ u ++ w, a ∈ s_L st := fun a ha => by
    rw [hl]; rcases List.mem_append.mp ha with ha | ha <;> simp [ha]
  have i8' := i8
  have i9' := i9
  rw [hl] at i8' i9'
  have dis : ∀ a ∈ u ++ w, ∀ k, bL (a.2 4) k = true → ¬ bL (e.2 4) k = true := by
    unfold pwA at i9'
    rw [List.pairwise_append, List.pairwise_cons] at i9'
    obtain ⟨a1, ⟨a2, a2'⟩, a3⟩ := i9'
    intro a ha k h1 h2
    rcases List.mem_append.mp ha with ha | ha
    · exact a3 a ha e (by simp) k ⟨h1, h2⟩
    · exact a2 a ha k ⟨h2, h1⟩
  have subl : (u ++ w).Sublist (u ++ e :: w) := List.Sublist.append_left (List.sublist_cons_self e w) u
  unfold Inv
  rw [show s_n (q_L (clE N aw nd p st e) (u ++ w)) = s_n st from c1, show s_M (q_L (clE N aw nd p st e) (u ++ w)) = s_M st from c4, show s_S (q_L (clE N aw nd p st e) (u ++ w)) = s_S st from c5, show s_L (q_L (clE N aw nd p st e) (u ++ w)) = u ++ w from rfl, show s_D (q_L (clE N aw nd p st e) (u ++ w)) = ug (s_D st) nd (s_D st nd ||| e.2 5) from c6, show s_B (q_L (clE N aw nd p st e) (u ++ w)) = s_B (clE N aw nd p st e) from rfl, show s_F (q_L (clE N aw nd p st e) (u ++ w)) = s_F st ++ X from xF]
  refine ⟨i0, i1, fun a ha => ?_, fun q hq => ?_, i4, fun x k hx hb => ?_, i6, fun k hk => ?_, i8'.sublist subl, i9'.sublist subl, G, fun x k hx hb => ?_, fun a ha x k hx h1 h2 => g2 a (sub a ha) x k hx h1 h2, fun x k hx hG => ?_, ?_, fun x hx => ?_⟩
  · refine (i2 a (sub a ha)).kp h8 (fun k hk hf => ?_)
    rw [xB, if_neg (fun hh => dis a ha k hk hh.2)]; exact hf
  · rcases List.mem_append.mp hq with hq | hq
    · exact (i3 q hq).kp h8
    · exact (x3 q hq).kp h8
  · by_cases hxn : x = nd
    · subst hxn
      rw [ug_e, bL_or] at hb
      simp at hb
      rcases hb with hb | hb
      · exact i5 x k hx hb
      · exact (v6 k hb).1
    · rw [ug_n hxn] at hb; exact i5 x k hx hb
  · have h1 := i7 k (by rw [← h8 k 8 (by omega)]; exact hk)
    refine ⟨h1.1, ?_⟩
    rw [xB]
    split
    · rename_i hc
      exact bG_set h1.2 (v7 k hc.2).2 hp
    · exact h1.2
  · by_cases hxn : x = nd
    · subst hxn
      rw [ug_e, bL_or] at hb
      simp at hb
      rcases hb with hb | hb
      · exact g1 x k hx hb
      · exact g2 e he' x k hx he hb
    · rw [ug_n hxn] at hb; exact g1 x k hx hb
  · rcases g3 x k hx hG with h1 | ⟨a, a1, a2, a3⟩
    · left
      by_cases hxn : x = nd
      · subst hxn; rw [ug_e, bL_or, h1]; rfl
      · rw [ug_n hxn]; exact h1
    · rw [hl] at a1
      rcases List.mem_append.mp a1 with a1 | a1
      · exact Or.inr ⟨a, by simp [a1], a2, a3⟩
      · rcases List.mem_cons.mp a1 with rfl | a1
        · left
          rw [he, x_eq (by omega) (by omega)] at a2
          subst a2
          rw [ug_e, bL_or, a3]; simp
        · exact Or.inr ⟨a, by simp [a1], a2, a3⟩
  · rw [hl, cbL_mid] at g4
    rw [List.length_append]
    have : cbL (u ++ w) = cbL u + cbL w := by simp [cbL]
    omega
  · have := g5 x hx
    rw [hl] at this
    have l2 := (subl.filter (atN x)).length_le
    omega
theorem inv_fold {nd : Nat} {p : Ms} {v : En → Bool} (ok : nOk N) (hnd : nd < N 0) (hv : ∀ e, v e = true → e.1 0 = nI nd) (hp : p 0 = 1 ∨ p 0 = 2) : ∀ (w u : List En) (st : St), s_L st = u ++ w → lo ≤ s_n st + 1 → plG kb (s_B st) p → Inv N kb lo s st → Inv N kb lo s (q_L ((w.filter v).foldl (clE N aw nd p) st) (u ++ w.filter (fun e => !(v e)))) := by
  intro w
  induction w with
  | nil =>
    intro u st hl _ _ I
    have : q_L st (u ++ ([] : List En)) = st := by rw [← hl]; rfl
    show Inv N kb lo s (q_L st (u ++ ([] : List En)))
    rw [this]; exact I
  | cons e w ih =>
    intro u st hl hlo hpl I
    by_cases hve : v e = true
    · rw [List.filter_cons_of_pos hve, List.filter_cons_of_neg (by simp [hve]), List.foldl_cons]
      have I2 := inv_close (aw := aw) ok I hl hnd (hv e hve) hlo hp hpl
      have ck := clE_k (N := N) (aw := aw) (nd := nd) (p := p) (st := st) (e := e)
      have := ih u (q_L (clE N aw nd p st e) (u ++ w)) rfl (by rw [show s_n (q_L (clE N aw nd p st e) (u ++ w)) = s_n st from ck.1]; exact hlo) (hpl.kp (fun k i hi => by
        show s_B (clS (e.2 4) p 60 0 (clN N aw nd (e.1 3) p 6 0 st)) k i = _
        rw [clS_B, (clN_k (N := N) (aw := aw) 6 0 st).2.2.2.2.2.2]
        split
        · exact fSet_8 hi
        · rfl)) I2
      rw [clE_fL] at this
      exact this
    · rw [List.filter_cons_of_neg hve, List.filter_cons_of_pos (by simp [hve])]
      have := ih (u ++ [e]) st (by simp [hl]) hlo hpl I
      simpa using this
theorem kpS_len {l : List So} {t : So} {r : Nat} (hl : l.length ≤ r) : (kpS l t r).length ≤ r := by
  have h1 := kpD_len l t.1
  unfold kpS
  dsimp only
  generalize kpD l t.1 = l1 at *
  by_cases hc : 0 < l1.length ∧ r ≤ l1.length
  · rw [if_pos hc]
    split <;> simp <;> omega
  · rw [if_neg hc]
    split <;> simp <;> omega
theorem inv_data {nd f : Nat} {p : Ms} (ok : nOk N) (I : Inv N kb lo s st) (hnd : nd < N 0) (hf : f < N 0) (hlo : lo ≤ s_n st + 1) (hp : p 0 = 1) (hpl : plG kb (s_B st) p) : Inv N kb lo s (data N aw st nd f p) := by
  have b0 := ok.1
  unfold data
  cases hq : fs (isV nd (p 4) (frs p (s_n st))) (s_L st) with
  | none => exact inv_tick I
  | some r =>
    obtain ⟨u, e, w⟩ := r
    obtain ⟨l1, l2, -⟩ := fs_some hq
    dsimp only
    obtain ⟨i0, i1, i2, i3, i4, i5, i6, i7, i8, i9, i10⟩ := id I
    obtain ⟨-, -, -, -, -, -, -, sx, s1, s2⟩ := i2 e (by rw [l1]; simp)
    have mo : mOk (ug (s_M st) (6 * nd + f) (nI (s_n st) - e.1 9)) := fun i hi => by
      by_cases hii : i = 6 * nd + f
      · subst hii
        rw [ug_e]
        right
        exact ⟨s_n st - sx, by omega, by rw [s2, pk_sub s1]⟩
      · rw [ug_n hii]; exact i4 i hi
    have I1 : Inv N kb lo s (q_S (if e.1 7 = nI f then q_M st (ug (s_M st) (6 * nd + f) (nI (s_n st) - e.1 9)) else st) (ug (s_S st) nd (kpS (s_S st nd) (p 4, p 7, p 8) (N (5 + nd))))) := by
      have sl : ∀ x, x < 6 → (ug (s_S st) nd (kpS (s_S st nd) (p 4, p 7, p 8) (N (5 + nd))) x).length ≤ N (5 + x) := fun x hx => by
        by_cases hxn : x = nd
        · subst hxn; rw [ug_e]; exact kpS_len (i6 x hx)
        · rw [ug_n hxn]; exact i6 x hx
      split
      · exact ⟨i0, i1, i2, i3, mo, i5, sl, i7, i8, i9, i10⟩
      · exact ⟨i0, i1, i2, i3, i4, i5, sl, i7, i8, i9, i10⟩
    have := inv_fold (aw := aw) (v := isV nd (p 4) (frs p (s_n st))) ok hnd (fun e he => by simp [isV] at he; exact he.1) (Or.inl hp) (s_L st) [] _ (by
      show s_L (if e.1 7 = nI f then q_M st (ug (s_M st) (6 * nd + f) (nI (s_n st) - e.1 9)) else st) = [] ++ s_L st
      split <;> rfl) (by
      show lo ≤ s_n (if e.1 7 = nI f then q_M st (ug (s_M st) (6 * nd + f) (nI (s_n st) - e.1 9)) else st) + 1
      split <;> exact hlo) (by
      show plG kb (s_B (if e.1 7 = nI f then q_M st (ug (s_M st) (6 * nd + f) (nI (s_n st) - e.1 9)) else st)) p
      split <;> exact hpl) I1
    simpa using this
theorem inv_nack {nd f nm : Nat} {p : Ms} (ok : nOk N) (I : Inv N kb lo 1 st) (hnd : nd < N 0) (hlo : lo ≤ s_n st + 1) (hp : p 0 = 2) (hpl : plG kb (s_B st) p) : Inv N kb lo 0 (nack N aw st nd f nm p) := by
  have b0 := ok.1
  unfold nack
  cases hq : fs (isE nd (p 4) (p 5)) (s_L st) with
  | none => exact inv_sl I (by omega)
  | some r =>
    obtain ⟨u, e, w⟩ := r
    obtain ⟨l1, l2, -⟩ := fs_some hq
    have l2 : e.1 0 = nI nd ∧ e.1 1 = p 4 ∧ e.1 2 = p 5 := by simpa [isE] using l2
    dsimp only
    split
    · cases hb : bw N aw (s_d st) (s_M st) nd nm (e.1 3 ||| e.1 8) with
      | none =>
        dsimp only
        refine inv_sl (inv_close (s := 1) (p := fun i => if i = 7 then p 7 + 1 else p i) ok I l1 hnd l2.1 hlo (Or.inr hp) ⟨?_, ?_, fun hh => ?_⟩) (by omega)
        · exact Or.inr (Or.inr hp)
        · exact hpl.2.1
        · have hh : p 0 = 0 := hh
          rw [hp] at hh; exact absurd hh (by decide)
      | some t =>
        dsimp only
        have ht := bw_lt ok hb
        obtain ⟨i0, i1, i2, i3, i4, i5, i6, i7, i8, i9, G, g1, g2, g3, g4, g5⟩ := id I
        have he' : e ∈ s_L st := by rw [l1]; simp
        obtain ⟨v1, v2, v3, v4, v5, v6, v7, v8⟩ := i2 e he'
        have hin : ∀ a, a ∈ u ++ eOut e t (s_n st) :: w → a = eOut e t (s_n st) ∨ a ∈ s_L st := fun a ha => by
          rw [l1]
          rcases List.mem_append.mp ha with ha | ha
          · exact Or.inr (by simp [ha])
          · rcases List.mem_cons.mp ha with ha | ha
            · exact Or.inl ha
            · exact Or.inr (by simp [ha])
        have I2 : Inv N kb lo (0 + 1) (q_L st (u ++ eOut e t (s_n st) :: w)) := by
          have i8' := i8
          have i9' := i9
          rw [l1] at i8' i9'
          refine ⟨i0, i1, fun a ha => ?_, i3, i4, i5, i6, i7, ?_, ?_, G, g1, fun a ha x k hx h1 h2 => ?_, fun x k hx hG => ?_, ?_, fun x hx => ?_⟩
          · rcases hin a ha with rfl | ha
            · exact ⟨v1, ⟨t, ht, rfl⟩, v3, v4, v5, v6, v7, ⟨s_n st, Nat.le_refl _, rfl⟩⟩
            · exact i2 a ha
          · show pwU (u ++ eOut e t (s_n st) :: w)
            unfold pwU at i8' ⊢
            rw [List.pairwise_append] at i8' ⊢
            obtain ⟨a1, a2, a3⟩ := i8'
            rw [List.pairwise_cons] at a2 ⊢
            refine ⟨a1, ⟨fun f hff => a2.1 f hff, a2.2⟩, fun a ha f hff => ?_⟩
            rcases List.mem_cons.mp hff with rfl | hff
            · exact a3 a ha e (by simp)
            · exact a3 a ha f (by simp [hff])
          · show pwA (u ++ eOut e t (s_n st) :: w)
            unfold pwA at i9' ⊢
            rw [List.pairwise_append] at i9' ⊢
            obtain ⟨a1, a2, a3⟩ := i9'
            rw [List.pairwise_cons] at a2 ⊢
            refine ⟨a1, ⟨fun f hff => a2.1 f hff, a2.2⟩, fun a ha f hff => ?_⟩
            rcases List.mem_cons.mp hff with rfl | hff
            · exact a3 a ha e (by simp)
            · exact a3 a ha f (by simp [hff])
          · rcases hin a ha with rfl | ha
            · exact g2 e he' x k hx h1 h2
            · exact g2 a ha x k hx h1 h2
          · rcases g3 x k hx hG with h1 | ⟨a, a1, a2, a3⟩
            · exact Or.inl h1
            · refine Or.inr ?_
              rw [l1] at a1
              show ∃ e_1 ∈ u ++ eOut e t (s_n st) :: w, _
              rcases List.mem_append.mp a1 with a1 | a1
              · exact ⟨a, by simp [a1], a2, a3⟩
              · rcases List.mem_cons.mp a1 with rfl | a1
                · exact ⟨eOut a t (s_n st), by simp, a2, a3⟩
                · exact ⟨a, by simp [a1], a2, a3⟩
          · show (s_F st).length + cbL (u ++ eOut e t (s_n st) :: w) + (0 + 1) ≤ cG G
            rw [l1, cbL_mid] at g4
            rw [cbL_mid]
            exact g4
          · have := g5 x hx
            rw [l1] at this
            have ll : ((u ++ eOut e t (s_n st) :: w).filter (atN x)).length = ((u ++ e :: w).filter (atN x)).length := by
              have : atN x (eOut e t (s_n st)) = atN x e := rfl
              rw [List.filter_append, List.filter_append, List.length_append, List.length_append, List.filter_cons, List.filter_cons, this]
              split <;> rfl
            show ((u ++ eOut e t (s_n st) :: w).filter (atN x)).length ≤ _
            omega
        obtain ⟨k, k1, k2, k3⟩ := v5
        obtain ⟨q1, q2, q3, q4⟩ := v6 k k3
        exact inv_send (aw := aw) (a := nd) (b := t) (p := plI (p 4) (p 5) (e.1 6)) ok I2 hnd ht hlo ⟨Or.inl rfl, hpl.2.1, fun _ => ⟨k, k1, k2, q2, q3.trans l2.2.1, q4.trans l2.2.2⟩⟩
    · exact inv_sl I (by omega)
end Inv3
