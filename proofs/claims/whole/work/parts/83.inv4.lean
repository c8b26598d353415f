/-! entries end; what is sent comes later -/
section Inv4
variable {N : Nat → Nat} {aw : Int32} {kb lo s : Nat} {st : St}
theorem pw_ne {α : Type} {R : α → α → Prop} (sy : ∀ a b, R a b → R b a) : ∀ {l : List α}, l.Pairwise R → ∀ a ∈ l, ∀ b ∈ l, a ≠ b → R a b := by
  intro l
  induction l with
  | nil => intro _ a ha; cases ha
  | cons x l ih =>
    intro h a ha b hb hne
    rw [List.pairwise_cons] at h
    rcases List.mem_cons.mp ha with ha' | ha' <;> rcases List.mem_cons.mp hb with hb' | hb'
    · exact absurd (ha'.trans hb'.symm) hne
    · rw [ha']; exact h.1 b hb'
    · rw [hb']; exact sy _ _ (h.1 a ha')
    · exact ih h.2 a ha' b hb' hne
theorem or_fold {k : Nat} : ∀ (l : List En) (d : Int64), bL (l.foldl (fun d e => d ||| e.2 5) d) k = (bL d k || l.any (fun e => bL (e.2 5) k)) := by
  intro l
  induction l with
  | nil => intro d; simp
  | cons e l ih => intro d; rw [List.foldl_cons, ih, bL_or, List.any_cons, Bool.or_assoc]
theorem cbL_flt (pr : En → Bool) (l : List En) : cbL (l.filter pr) ≤ cbL l := by
  induction l with
  | nil => exact Nat.le_refl _
  | cons a l ih =>
    by_cases ha : pr a = true
    · rw [List.filter_cons_of_pos ha]; simp only [cbL, List.map_cons, List.sum_cons] at ih ⊢; omega
    · rw [List.filter_cons_of_neg ha]; simp only [cbL, List.map_cons, List.sum_cons] at ih ⊢; omega
theorem bG_end {now : Nat} {b : Nat → Int32} (v : bG now b) (hf : fr0 b) : bG now (endB b now) := by
  obtain ⟨⟨a, a1, a2⟩, -⟩ := v
  obtain ⟨f0, f2, f3, f4, f5, f6, f7⟩ := hf
  exact ⟨⟨a, a1, a2⟩, Or.inr (Or.inr (Or.inr ⟨rfl, f3, f4, f5, f6, f7⟩))⟩
theorem eNd_of {e : En} {nd : Nat} (h : e.1 0 = nI nd) (hn : nd < 2147483648) : eNd e = nd := by unfold eNd; rw [h]; exact x_cl hn
theorem inv_ends (ok : nOk N) (I : Inv N kb lo s st) : Inv N kb lo s (ends N st) := by
  obtain ⟨i0, i1, i2, i3, i4, i5, i6, i7, i8, i9, G, g1, g2, g3, g4, g5⟩ := I
  have b0 := ok.1
  unfold ends
  obtain ⟨l, el⟩ : ∃ l, l = (s_L st).filter (fun e => decide (e.1 10 = nI (s_n st))) := ⟨_, rfl⟩
  rw [← el, fe]
  have lm : ∀ e ∈ l, e ∈ s_L st ∧ e.1 10 = nI (s_n st) := fun e he => by
    rw [el] at he
    exact ⟨(List.mem_filter.mp he).1, by simpa using (List.mem_filter.mp he).2⟩
  have h8 : sB8 (s_B st) (Bf st l) := fun k i hi => by
    unfold Bf
    split
    · show (if i = 0 then (3 : Int32) else if i = 2 then _ else s_B st k i) = _
      rw [if_neg (by omega), if_neg (by omega)]
    · rfl
  have Dl : ∀ x k, x < 6 → bL (Df st l x) k = true → bL (s_D st x) k = true ∨ ∃ e ∈ s_L st, e.1 0 = nI x ∧ bL (e.2 5) k = true := fun x k hx hb => by
    unfold Df at hb
    rw [or_fold] at hb
    simp only [Bool.or_eq_true, List.any_eq_true] at hb
    rcases hb with hb | ⟨e, h1, h2⟩
    · exact Or.inl hb
    · obtain ⟨h3, h4⟩ := List.mem_filter.mp h1
      obtain ⟨nd, n1, n2⟩ := (i2 e (lm e h3).1).1
      rw [eNd_of n2 (by omega)] at h4
      simp at h4; subst h4
      exact Or.inr ⟨e, (lm e h3).1, n2, h2⟩
  refine ⟨i0, i1, fun a ha => ?_, fun q hq => (i3 q hq).kp h8, fun i hi => ?_, fun x k hx hb => ?_, i6, fun k hk => ?_, i8.sublist List.filter_sublist, i9.sublist List.filter_sublist, G, fun x k hx hb => ?_, fun a ha x k hx h1 h2 => g2 a (List.mem_filter.mp ha).1 x k hx h1 h2, fun x k hx hG => ?_, ?_, fun x hx => ?_⟩
  · obtain ⟨ha1, ha2⟩ := List.mem_filter.mp ha
    refine (i2 a ha1).kp h8 (fun k hk hf => ?_)
    show fr0 (Bf st l k)
    unfold Bf
    rw [if_neg]
    · exact hf
    · rintro ⟨-, h2⟩
      rw [List.any_eq_true] at h2
      obtain ⟨e, h3, h4⟩ := h2
      have hne : e ≠ a := fun hh => by
        have := (lm e h3).2
        rw [hh] at this
        simp [this] at ha2
      exact pw_ne (fun a b h k hh => h k ⟨hh.2, hh.1⟩) i9 e (lm e h3).1 a ha1 hne k ⟨h4, hk⟩
  · show Mf N st l i = -1 ∨ ∃ v, v ≤ 99 ∧ Mf N st l i = nI v
    unfold Mf
    split
    · exact Or.inr ⟨N 1, ok.2.1.2, rfl⟩
    · exact i4 i hi
  · rcases Dl x k hx hb with h1 | ⟨e, h1, h2, h3⟩
    · exact i5 x k hx h1
    · exact ((i2 e h1).2.2.2.2.2.1 k h3).1
  · have h1 := i7 k (by rw [← h8 k 8 (by omega)]; exact hk)
    refine ⟨h1.1, ?_⟩
    show bG (s_n st) (Bf st l k)
    unfold Bf
    split
    · rename_i hc
      obtain ⟨e, h3, h4⟩ := List.any_eq_true.mp hc.2
      exact bG_end h1.2 ((i2 e (lm e h3).1).2.2.2.2.2.2.1 k h4).2
    · exact h1.2
  · rcases Dl x k hx hb with h1 | ⟨e, h1, h2, h3⟩
    · exact g1 x k hx h1
    · exact g2 e h1 x k hx h2 h3
  · show bL (Df st l x) k = true ∨ _
    unfold Df
    rw [or_fold]
    simp only [Bool.or_eq_true, List.any_eq_true]
    rcases g3 x k hx hG with h1 | ⟨a, a1, a2, a3⟩
    · exact Or.inl (Or.inl h1)
    · by_cases ha : a.1 10 = nI (s_n st)
      · refine Or.inl (Or.inr ⟨a, List.mem_filter.mpr ⟨by rw [el]; exact List.mem_filter.mpr ⟨a1, by simp [ha]⟩, ?_⟩, a3⟩)
        rw [eNd_of a2 (by omega)]; simp
      · exact Or.inr ⟨a, List.mem_filter.mpr ⟨a1, by simp [ha]⟩, a2, a3⟩
  · have := cbL_flt (fun e => !(decide (e.1 10 = nI (s_n st)))) (s_L st)
    show (s_F st).length + cbL ((s_L st).filter (fun e => !(decide (e.1 10 = nI (s_n st))))) + s ≤ cG G
    omega
  · have h1 := g5 x hx
    have h2 := ((List.filter_sublist (l := s_L st) (p := fun e => !(decide (e.1 10 = nI (s_n st))))).filter (atN x)).length_le
    exact Nat.le_trans h2 h1
/-- what is sent is due later -/
def nd1 (now : Nat) (q : Ms) : Prop := ∃ d, now < d ∧ d ≤ 200 ∧ q 3 = nI d
def gr (st st' : St) : Prop := (∃ X, s_F st' = s_F st ++ X ∧ ∀ q ∈ X, nd1 (s_n st) q) ∧ s_n st' = s_n st ∧ s_d st' = s_d st
theorem gr.rf : gr st st := ⟨⟨[], by simp, fun q hq => by cases hq⟩, rfl, rfl⟩
theorem gr.tr {st1 st2 : St} (a : gr st st1) (b : gr st1 st2) : gr st st2 := by
  obtain ⟨⟨X, x1, x2⟩, x3, x4⟩ := a
  obtain ⟨⟨Y, y1, y2⟩, y3, y4⟩ := b
  refine ⟨⟨X ++ Y, by rw [y1, x1, List.append_assoc], fun q hq => ?_⟩, y3.trans x3, y4.trans x4⟩
  rcases List.mem_append.mp hq with hq | hq
  · exact x2 q hq
  · rw [← x3]; exact y2 q hq
theorem gr.of {st' : St} (h1 : s_F st' = s_F st) (h2 : s_n st' = s_n st) (h3 : s_d st' = s_d st) : gr st st' := ⟨⟨[], by rw [h1]; simp, fun q hq => by cases hq⟩, h2, h3⟩
theorem gr_send {a b : Nat} {p : Ms} (ok : nOk N) (hn : s_n st ≤ 99) : gr st (send N aw st a b p) := by
  unfold send
  cases hu : upL N aw (s_d st) (6 * a + b) with
  | none => exact gr.of rfl rfl rfl
  | some l =>
    refine ⟨⟨[msg a b (nI (s_n st + N (13 + 3 * l))) p], rfl, fun q hq => ?_⟩, rfl, rfl⟩
    rw [List.mem_singleton.mp hq]
    have := ok.2.2.2.2.2.2.1 l (upL_lt hu).1
    exact ⟨s_n st + N (13 + 3 * l), by omega, by omega, rfl⟩
theorem gr_answ {nd k : Nat} {fr : Option Nat} {p : Ms} (ok : nOk N) (hn : s_n st ≤ 99) : gr st (answ N aw st nd fr k p) := by
  cases fr with
  | none => exact gr.of rfl rfl rfl
  | some f => exact gr_send ok hn
theorem gr_inte {nd k nm : Nat} {fr : Option Nat} {ws : Int32} (ok : nOk N) (hn : s_n st ≤ 99) : gr st (inte N aw st nd fr nm ws k) := by
  unfold inte
  split
  · exact (gr.of (st' := tick st 3) rfl rfl rfl).tr (gr_answ ok hn)
  · split
    · rename_i r _
      exact (gr.of (st' := q_S (tick st 1) (ug (s_S st) nd (r.1 ++ r.2.2 ++ [r.2.1]))) rfl rfl rfl).tr (gr_answ ok hn)
    · split
      · exact gr_answ ok hn
      · split
        · exact gr.of rfl rfl rfl
        · unfold makeE
          split
          · exact gr_answ ok hn
          · rename_i t _
            exact (gr.of (st' := q_L st (s_L st ++ [eOut (newE N st nd fr nm ws k) t (s_n st)])) rfl rfl rfl).tr (gr_send ok hn)
theorem gr_clN {nd : Nat} {x : Int32} {p : Ms} (ok : nOk N) : ∀ (d i : Nat) (st : St), s_n st ≤ 99 → gr st (clN N aw nd x p d i st) := by
  intro d
  induction d with
  | zero => exact fun i st _ => gr.rf
  | succ d ih =>
    intro i st hn
    simp only [clN]
    split
    · have := gr_send (aw := aw) (a := nd) (b := i) (p := p) (st := st) ok hn
      exact this.tr (ih (i + 1) _ (by rw [this.2.1]; exact hn))
    · exact ih (i + 1) st hn
theorem gr_clE {nd : Nat} {p : Ms} {e : En} (ok : nOk N) (hn : s_n st ≤ 99) : gr st (clE N aw nd p st e) := by
  have h1 := gr_clN (aw := aw) (nd := nd) (x := e.1 3) (p := p) ok 6 0 st hn
  refine h1.tr ?_
  have h2 := clS_k (x := e.2 4) (p := p) 60 0 (clN N aw nd (e.1 3) p 6 0 st)
  exact gr.of (clS_F 60 0 _) h2.1 h2.2.1
theorem gr_fold {nd : Nat} {p : Ms} (ok : nOk N) : ∀ (l : List En) (st : St), s_n st ≤ 99 → gr st (l.foldl (clE N aw nd p) st) := by
  intro l
  induction l with
  | nil => exact fun st _ => gr.rf
  | cons e l ih =>
    intro st hn
    have := gr_clE (aw := aw) (nd := nd) (p := p) (e := e) (st := st) ok hn
    exact this.tr (ih _ (by rw [this.2.1]; exact hn))
theorem gr_data {nd f : Nat} {p : Ms} (ok : nOk N) (hn : s_n st ≤ 99) : gr st (data N aw st nd f p) := by
  unfold data
  split
  · exact gr.of rfl rfl rfl
  · rename_i r _
    dsimp only
    have h1 : gr st (q_S (if r.2.1.1 7 = nI f then q_M st (ug (s_M st) (6 * nd + f) (nI (s_n st) - r.2.1.1 9)) else st) (ug (s_S st) nd (kpS (s_S st nd) (p 4, p 7, p 8) (N (5 + nd))))) := by
      split
      · exact gr.of rfl rfl rfl
      · exact gr.of rfl rfl rfl
    have h2 := h1.tr (gr_fold (aw := aw) (nd := nd) (p := p) ok ((s_L st).filter (isV nd (p 4) (frs p (s_n st)))) _ (by rw [h1.2.1]; exact hn))
    exact h2.tr (gr.of rfl rfl rfl)
theorem gr_nack {nd f nm : Nat} {p : Ms} (ok : nOk N) (hn : s_n st ≤ 99) : gr st (nack N aw st nd f nm p) := by
  unfold nack
  split
  · exact gr.rf
  · rename_i r _
    split
    · split
      · rename_i t _
        exact (gr.of (st' := q_L st (r.1 ++ eOut r.2.1 t (s_n st) :: r.2.2)) rfl rfl rfl).tr (gr_send ok hn)
      · exact (gr_clE ok hn).tr (gr.of rfl rfl rfl)
    · exact gr.rf
theorem gr_take {p : Ms} (ok : nOk N) (hn : s_n st ≤ 99) : gr st (take N aw st p) := by
  unfold take
  dsimp only
  split
  · exact gr_data ok hn
  · split
    · exact gr_nack ok hn
    · exact gr_inte ok hn
/-- who has asked stays so -/
theorem b8_answ {nd k k' : Nat} {fr : Option Nat} {p : Ms} : s_B (answ N aw st nd fr k p) k' 8 = s_B st k' 8 := by
  cases fr with
  | none => exact settle_8
  | some f => show s_B (send N aw st nd f p) k' 8 = _; rw [send_k.2.2.2.2.2.2]
theorem b8_inte {nd k nm k' : Nat} {fr : Option Nat} {ws : Int32} : s_B (inte N aw st nd fr nm ws k) k' 8 = s_B st k' 8 := by
  unfold inte
  split
  · exact b8_answ
  · split
    · exact b8_answ
    · split
      · exact b8_answ
      · split
        · rfl
        · unfold makeE
          split
          · exact b8_answ
          · rw [send_k.2.2.2.2.2.2]; rfl
theorem b8_fold {nd k' : Nat} {p : Ms} : ∀ (l : List En) (st : St), s_B (l.foldl (clE N aw nd p) st) k' 8 = s_B st k' 8 := by
  intro l
  induction l with
  | nil => exact fun st => rfl
  | cons e l ih => intro st; rw [List.foldl_cons, ih, clE_8]
theorem b8_take {p : Ms} {k' : Nat} : s_B (take N aw st p) k' 8 = s_B st k' 8 := by
  unfold take
  dsimp only
  split
  · unfold data
    split
    · rfl
    · dsimp only
      show s_B (List.foldl _ _ _) k' 8 = _
      rw [b8_fold]
      split <;> rfl
  · split
    · unfold nack
      split
      · rfl
      · split
        · split
          · rw [send_k.2.2.2.2.2.2]; rfl
          · exact clE_8
        · rfl
    · exact b8_inte
theorem inv_take {p : Ms} (ok : nOk N) (I : Inv N kb lo 1 st) (hlo : lo ≤ s_n st + 1) (hp : pG N kb lo (s_B st) p) : Inv N kb lo 0 (take N aw st p) := by
  have b0 := ok.1
  obtain ⟨⟨f, f1, f2⟩, ⟨t, t1, t2⟩, -, hpl⟩ := hp
  obtain ⟨hk, ⟨nm, m1, m2⟩, hi⟩ := id hpl
  have e1 : (p 1).toNatClampNeg = f := by rw [f2]; exact x_cl (by omega)
  have e2 : (p 2).toNatClampNeg = t := by rw [t2]; exact x_cl (by omega)
  have e4 : (p 4).toNatClampNeg = nm := by rw [m2]; exact x_cl (by omega)
  unfold take
  dsimp only
  rw [e1, e2, e4]
  split
  · rename_i h1
    exact inv_sl (inv_data ok I t1 f1 hlo h1 hpl) (by omega)
  · split
    · rename_i h2
      exact inv_nack ok I t1 hlo h2 hpl
    · rename_i h1 h2
      obtain ⟨k, k1, k2, k3, k4, k5⟩ := hi (by
        rcases hk with hk | hk | hk
        · exact hk
        · exact absurd hk h1
        · exact absurd hk h2)
      have e6 : (p 6).toNatClampNeg = k := by rw [k2]; have := I.1; exact x_cl (by omega)
      rw [e6]
      exact inv_inte ok I t1 m1 hlo k1 ⟨k3, by rw [k4, m2], k5⟩ (fun f' hh => by cases hh; exact ⟨f1, Nat.le_refl _⟩) (fun hh => by cases hh)
/-- what the parts of a run ask of its entries -/
theorem Inv.e (I : Inv N kb lo s st) : ∀ e ∈ s_L st, eOk N e ∧ eM N (s_B st) e := fun e he => by
  obtain ⟨v1, v2, v3, v4, v5, v6, v7, v8⟩ := I.2.2.1 e he
  refine ⟨⟨v1, v2⟩, v4, fun k hk => ?_⟩
  have h1 := v6 k (v7 k hk).1
  have h2 := I.1
  exact ⟨by omega, h1.2.1⟩
theorem Inv.F (I : Inv N kb lo s st) : (s_F st).length + cbL (s_L st) + s ≤ 360 := by
  obtain ⟨G, g⟩ := I.2.2.2.2.2.2.2.2.2.2
  have := cG_le G
  have := g.2.2.2.1
  omega
end Inv4
