/-! stores: as lists, the one used longest ago first; the class's Store at s -/
abbrev So : Type := Int32 × Int32 × Int32
def vS (s : Nat) (h : Hp) (l : List So) : Prop := l.length ≤ 4 ∧ h.1 s 0 = nI l.length ∧ ∀ i, i < l.length → l[i]? = some (h.1 (s + 1) i, h.1 (s + 2) i, h.1 (s + 3) i)
def Loc (s : Nat) (h h' : Hp) : Prop := (∀ a k, a < s ∨ s + 4 ≤ a → h'.1 a k = h.1 a k) ∧ h'.2 = h.2
theorem Loc.rf {s : Nat} {h : Hp} : Loc s h h := ⟨fun _ _ _ => rfl, rfl⟩
theorem Loc.tr {s : Nat} {h h1 h2 : Hp} (q1 : Loc s h h1) (q2 : Loc s h1 h2) : Loc s h h2 := ⟨fun a k ha => (q2.1 a k ha).trans (q1.1 a k ha), q2.2.trans q1.2⟩
theorem Loc.I {s a k : Nat} {x : Int32} {h h1 : Hp} (ha : s ≤ a ∧ a < s + 4) (q1 : Loc s h h1) : Loc s h (sI h1 a k x) := ⟨fun b j hb => by rw [rI_n (by omega)]; exact q1.1 b j hb, q1.2⟩
def isN (x : Int32) (t : So) : Bool := decide (t.1 = x)
def ix {α : Type} (b : Nat) : Option (List α × α × List α) → Int32
  | none => -1
  | some r => nI (b + r.1.length)
theorem ix_p {α : Type} {pr : α → Bool} {a : α} {w : List α} {b : Nat} (hp : pr a = true) : ix b (fs pr (a :: w)) = nI b := by simp [fs, hp, ix]
theorem ix_n {α : Type} {pr : α → Bool} {a : α} {w : List α} {b : Nat} (hp : pr a = false) : ix b (fs pr (a :: w)) = ix (b + 1) (fs pr w) := by
  simp only [fs, hp, Bool.false_eq_true, if_false]
  cases fs pr w with
  | none => rfl
  | some r => simp only [Option.map_some, ix, List.length_cons]; congr 1; omega
theorem len_sn {α : Type} {u : List α} {t : α} : nI (u.length + 1) = nI (u ++ [t]).length := by simp
theorem sfind_L {K : Ly} {n s : Nat} {x : Int32} {h : Hp} {l : List So} (v : vS s h l) : ∀ (w u : List So) (fu : Nat), l = u ++ w → w.length < fu → f8_find_L2 K n s x h fu (nI u.length) = some (ix u.length (fs (isN x) w)) := by
  have v1 := v.1
  intro w
  induction w with
  | nil =>
    intro u fu hl hf
    obtain ⟨fu, rfl⟩ : ∃ g, fu = g + 1 := ⟨fu - 1, by omega⟩
    have e0 : h.1 s 0 = nI u.length := by rw [v.2.1, hl]; simp
    have hl2 : l.length = u.length := by rw [hl]; simp
    simp only [f8_find_L2, e0]
    rw [if_pos (nI_le (Nat.le_refl _) (by omega))]; rfl
  | cons t w ih =>
    intro u fu hl hf
    obtain ⟨fu, rfl⟩ : ∃ g, fu = g + 1 := ⟨fu - 1, by omega⟩
    have hl2 : l.length = u.length + 1 + w.length := by rw [hl]; simp; omega
    have e0 : ¬ h.1 s 0 ≤ nI u.length := by rw [v.2.1]; exact nI_ge (by omega) (by omega)
    have e1 := v.2.2 u.length (by omega)
    rw [hl, ge_mid] at e1
    have e2 : h.1 (s + 1) u.length = t.1 := by rw [Option.some.inj e1]
    have e3 : inb (nI u.length) 4 = true := x_in (by omega) (by omega)
    have e4 : (nI u.length).toNatClampNeg = u.length := x_cl (by omega)
    simp only [f8_find_L2, if_neg e0, e3, e4, e2, x_gd, x_lt, nI_1]
    by_cases hx : t.1 = x
    · rw [if_pos hx, ix_p (by simp [isN, hx])]
    · rw [if_neg hx, ix_n (by simp [isN, hx]), len_sn (t := t), ih (u ++ [t]) fu (by simp [hl]) (by simp at hf; omega)]
      simp
theorem sfind {K : Ly} {n s : Nat} {x : Int32} {h : Hp} {l : List So} (hn : 5 ≤ n) (v : vS s h l) : f8_find K n s x h = some (ix 0 (fs (isN x) l)) := by
  have v1 := v.1
  have := sfind_L (K := K) (n := n) (x := x) v l [] n rfl (by omega)
  exact this
theorem srem_L {K : Ly} {n s : Nat} : ∀ (w u : List So) (fu : Nat) (h : Hp), u.length + 1 + w.length ≤ 4 → h.1 s 0 = nI (u.length + 1 + w.length) → (∀ i, i < u.length → u[i]? = some (h.1 (s + 1) i, h.1 (s + 2) i, h.1 (s + 3) i)) → (∀ i, i < w.length → w[i]? = some (h.1 (s + 1) (u.length + 1 + i), h.1 (s + 2) (u.length + 1 + i), h.1 (s + 3) (u.length + 1 + i))) → w.length < fu →
    ∃ h', f8_remove_L2 K n s fu (nI u.length) h = some h' ∧ vS s h' (u ++ w) ∧ Loc s h h' := by
  intro w
  induction w with
  | nil =>
    intro u fu h h1 h2 h3 h4 hf
    obtain ⟨fu, rfl⟩ : ∃ g, fu = g + 1 := ⟨fu - 1, by omega⟩
    simp only [List.length_nil, Nat.add_zero] at h1 h2
    have e1 : nI (u.length + 1) ≤ nI (u.length + 1) := nI_le (Nat.le_refl _) (by omega)
    refine ⟨sI h s 0 (nI u.length), ?_, ⟨by simp; omega, by rw [rI_e]; simp, fun i hi => ?_⟩, Loc.I (by omega) Loc.rf⟩
    · simp only [f8_remove_L2, h2, nI_1, if_pos e1, x_lt, nI_pred]
    · simp only [List.append_nil] at hi ⊢
      rw [rI_n (by omega), rI_n (by omega), rI_n (by omega)]; exact h3 i hi
  | cons t w ih =>
    intro u fu h h1 h2 h3 h4 hf
    obtain ⟨fu, rfl⟩ : ∃ g, fu = g + 1 := ⟨fu - 1, by omega⟩
    simp only [List.length_cons] at h1 h2 hf
    have e1 : ¬ nI (u.length + 1 + (w.length + 1)) ≤ nI (u.length + 1) := nI_ge (by omega) (by omega)
    have e2 : inb (nI (u.length + 1)) 4 = true := x_in (by omega) (by omega)
    have e3 : inb (nI u.length) 4 = true := x_in (by omega) (by omega)
    have e4 : (nI (u.length + 1)).toNatClampNeg = u.length + 1 := x_cl (by omega)
    have e5 : (nI u.length).toNatClampNeg = u.length := x_cl (by omega)
    have ht := h4 0 (by simp)
    simp only [List.getElem?_cons_zero, Nat.add_zero, Option.some.injEq] at ht
    have t1 : h.1 (s + 1) (u.length + 1) = t.1 := by rw [ht]
    have t2 : h.1 (s + 2) (u.length + 1) = t.2.1 := by rw [ht]
    have t3 : h.1 (s + 3) (u.length + 1) = t.2.2 := by rw [ht]
    have this : f8_remove_L2 K n s (fu + 1) (nI u.length) h = f8_remove_L2 K n s fu (nI (u.length + 1)) (sI (sI (sI h (s + 1) u.length t.1) (s + 2) u.length t.2.1) (s + 3) u.length t.2.2) := by
      simp only [f8_remove_L2, h2, nI_1, if_neg e1, e2, e3, e4, e5, x_gd, x_lt, t1]
      rw [rI_n (by omega), t2, rI_n (by omega), rI_n (by omega), t3]
    obtain ⟨h', q1, q2, q3⟩ := ih (u ++ [t]) fu (sI (sI (sI h (s + 1) u.length t.1) (s + 2) u.length t.2.1) (s + 3) u.length t.2.2) (by simp; omega) (by
        rw [rI_n (by omega), rI_n (by omega), rI_n (by omega), h2]; congr 1; simp; omega) (fun i hi => by
        have hi : i < u.length + 1 := by simpa using hi
        by_cases hj : i = u.length
        · subst hj
          simp (disch := omega) only [rI_n, rI_e]
          simp
        · simp (disch := omega) only [rI_n]
          rw [List.getElem?_append_left (by omega)]; exact h3 i (by omega)) (fun i hi => by
        simp (disch := (simp only [List.length_append, List.length_cons, List.length_nil]; omega)) only [rI_n]
        have := h4 (i + 1) (by simp; omega)
        simp only [List.getElem?_cons_succ] at this
        rw [this]
        simp only [List.length_append, List.length_cons, List.length_nil]
        rw [show u.length + 1 + (i + 1) = u.length + (0 + 1) + 1 + i by omega]) (by omega)
    refine ⟨h', ?_, by simpa using q2, ?_⟩
    · rw [this, len_sn (t := t)]; exact q1
    · exact Loc.tr (Loc.I (by omega) (Loc.I (by omega) (Loc.I (by omega) Loc.rf))) q3
theorem srem {K : Ly} {n s : Nat} {h : Hp} {u w : List So} {t : So} (hn : 5 ≤ n) (v : vS s h (u ++ t :: w)) : ∃ h', f8_remove K n s (nI u.length) h = some h' ∧ vS s h' (u ++ w) ∧ Loc s h h' := by
  have hl : (u ++ t :: w).length = u.length + 1 + w.length := by simp; omega
  have v1 := v.1
  rw [hl] at v1
  refine srem_L w u n h v1 (by rw [← hl]; exact v.2.1) (fun i hi => ?_) (fun i hi => ?_) (by omega)
  · rw [← v.2.2 i (by omega), List.getElem?_append_left hi]
  · rw [← v.2.2 (u.length + 1 + i) (by omega), List.getElem?_append_right (by omega), show u.length + 1 + i - u.length = i + 1 by omega, List.getElem?_cons_succ]
theorem sadd {K : Ly} {n s : Nat} {h : Hp} {l : List So} {a b d : Int32} (v : vS s h l) (hl : l.length < 4) : ∃ h', f8_add K n s a b d h = some h' ∧ vS s h' (l ++ [(a, b, d)]) ∧ Loc s h h' := by
  have e1 : ¬ (4 : Int32) ≤ nI l.length := by rw [l_4]; exact nI_ge (by omega) (by omega)
  have e2 : inb (nI l.length) 4 = true := x_in (by omega) (by omega)
  have e3 : (nI l.length).toNatClampNeg = l.length := x_cl (by omega)
  refine ⟨sI (sI (sI (sI h (s + 1) l.length a) (s + 2) l.length b) (s + 3) l.length d) s 0 (nI (l.length + 1)), ?_, ⟨by simp; omega, by rw [rI_e]; simp, fun i hi => ?_⟩, Loc.I (by omega) (Loc.I (by omega) (Loc.I (by omega) (Loc.I (by omega) Loc.rf)))⟩
  · simp (disch := omega) only [f8_add, v.2.1, if_neg e1, e2, e3, x_gd, x_lt, rI_n, nI_1]
  · have hi : i < l.length + 1 := by simpa using hi
    by_cases hj : i = l.length
    · subst hj
      simp (disch := omega) only [rI_n, rI_e]
      simp
    · simp (disch := omega) only [rI_n]
      rw [List.getElem?_append_left (by omega)]; exact v.2.2 i (by omega)
theorem suse {K : Ly} {n s : Nat} {h : Hp} {u w : List So} {t : So} (hn : 5 ≤ n) (v : vS s h (u ++ t :: w)) : ∃ h', f8_use K n s (nI u.length) h = some h' ∧ vS s h' (u ++ w ++ [t]) ∧ Loc s h h' := by
  have hl : (u ++ t :: w).length = u.length + 1 + w.length := by simp; omega
  have v1 := v.1
  rw [hl] at v1
  obtain ⟨ha, q1, q2, q3⟩ := srem (K := K) (n := n) hn v
  obtain ⟨hb, r1, r2, r3⟩ := sadd (K := K) (n := n) (a := t.1) (b := t.2.1) (d := t.2.2) q2 (by simp; omega)
  have e2 : inb (nI u.length) 4 = true := x_in (by omega) (by omega)
  have e3 : (nI u.length).toNatClampNeg = u.length := x_cl (by omega)
  have e4 := v.2.2 u.length (by omega)
  rw [ge_mid] at e4
  have e4 := Option.some.inj e4
  have t1 : h.1 (s + 1) u.length = t.1 := by rw [e4]
  have t2 : h.1 (s + 2) u.length = t.2.1 := by rw [e4]
  have t3 : h.1 (s + 3) u.length = t.2.2 := by rw [e4]
  refine ⟨hb, ?_, r2, q3.tr r3⟩
  simp only [f8_use, e2, e3, x_gd, x_lt, t1, t2, t3, q1, x_bp, r1]
/-- what a store keeps of new data, in a room -/
def kpD (l : List So) (x : Int32) : List So := match fs (isN x) l with
  | none => l
  | some r => r.1 ++ r.2.2
def kpS (l : List So) (t : So) (r : Nat) : List So :=
  let l1 := kpD l t.1
  let l2 := if 0 < l1.length ∧ r ≤ l1.length then l1.tail else l1
  if l2.length < r then l2 ++ [t] else l2
theorem kpD_len (l : List So) (x : Int32) : (kpD l x).length ≤ l.length := by
  unfold kpD
  cases hq : fs (isN x) l with
  | none => simp
  | some r =>
    obtain ⟨r1, r2, r3⟩ := r
    obtain ⟨e1, -, -⟩ := fs_some hq
    rw [e1]; simp
theorem skeep {K : Ly} {n s ma r : Nat} {h : Hp} {l : List So} {t : So} (hn : 5 ≤ n) (v : vS s h l) (hm : ma < s ∨ s + 4 ≤ ma) (hr : r ≤ 4) (h4 : h.1 ma 4 = t.1) (h7 : h.1 ma 7 = t.2.1) (h8 : h.1 ma 8 = t.2.2) : ∃ h', f8_keep K n s ma (nI r) h = some h' ∧ vS s h' (kpS l t r) ∧ Loc s h h' := by
  -- the last step
  have last : ∀ (l2 : List So) (ha : Hp), vS s ha l2 → Loc s h ha → ∃ h', f8_keep_J39 K n s ma (nI r) ha = some h' ∧ vS s h' (if l2.length < r then l2 ++ [t] else l2) ∧ Loc s h h' := by
    intro l2 ha va hla
    have va1 := va.1
    by_cases hlt : l2.length < r
    · obtain ⟨hb, r1, r2, r3⟩ := sadd (K := K) (n := n) (a := t.1) (b := t.2.1) (d := t.2.2) va (by omega)
      refine ⟨hb, ?_, by rw [if_pos hlt]; exact r2, hla.tr r3⟩
      have e1 : ¬ nI r ≤ nI l2.length := nI_ge hlt (by omega)
      simp only [f8_keep_J39, va.2.1, if_neg e1, hla.1 ma _ hm, h4, h7, h8, r1, x_bp]
    · refine ⟨ha, ?_, by rw [if_neg hlt]; exact va, hla⟩
      have e1 : nI r ≤ nI l2.length := nI_le (by omega) (by omega)
      simp only [f8_keep_J39, va.2.1, if_pos e1]
  have mid : ∀ (l1 : List So) (ha : Hp), vS s ha l1 → Loc s h ha → ∃ h', f8_keep_J19 K n s ma (nI r) ha = some h' ∧ vS s h' (let l2 := if 0 < l1.length ∧ r ≤ l1.length then l1.tail else l1; if l2.length < r then l2 ++ [t] else l2) ∧ Loc s h h' := by
    intro l1 ha va hla
    have va1 := va.1
    by_cases h0 : 0 < l1.length
    · have e1 : ¬ nI l1.length ≤ 0 := nI_nle h0 (by omega)
      by_cases h1 : r ≤ l1.length
      · have e2 : ¬ nI l1.length < nI r := nI_nlt h1 (by omega)
        match l1, h0, va with
        | t0 :: l2, h0, va =>
          obtain ⟨hb, r1, r2, r3⟩ := srem (K := K) (n := n) (u := []) hn va
          obtain ⟨hd, s1, s2, s3⟩ := last l2 hb r2 (hla.tr r3)
          refine ⟨hd, ?_, ?_, s3⟩
          · have r1b : f8_remove K n s 0 ha = some hb := r1
            simp only [f8_keep_J19, va.2.1, if_neg e1, if_neg e2, r1b, x_bp]; exact s1
          · simp only [if_pos (And.intro h0 h1), List.tail_cons]; exact s2
      · have e2 : nI l1.length < nI r := nI_lt (by omega) (by omega)
        obtain ⟨hd, s1, s2, s3⟩ := last l1 ha va hla
        refine ⟨hd, ?_, ?_, s3⟩
        · simp only [f8_keep_J19, va.2.1, if_neg e1, if_pos e2]; exact s1
        · simp only [if_neg (fun hh : 0 < l1.length ∧ r ≤ l1.length => h1 hh.2)]; exact s2
    · have e1 : nI l1.length ≤ 0 := by rw [l_0]; exact nI_le (by omega) (by omega)
      obtain ⟨hd, s1, s2, s3⟩ := last l1 ha va hla
      refine ⟨hd, ?_, ?_, s3⟩
      · simp only [f8_keep_J19, va.2.1, if_pos e1]; exact s1
      · simp only [if_neg (fun hh : 0 < l1.length ∧ r ≤ l1.length => h0 hh.1)]; exact s2
  have v1 := v.1
  cases hq : fs (isN t.1) l with
  | none =>
    obtain ⟨hd, s1, s2, s3⟩ := mid l h v Loc.rf
    refine ⟨hd, ?_, ?_, s3⟩
    · simp only [f8_keep, h4, sfind hn v, hq, ix, x_bp, if_true]; exact s1
    · simpa only [kpS, kpD, hq] using s2
  | some rr =>
    obtain ⟨r1, r2, r3⟩ := rr
    obtain ⟨e1, e2, e3⟩ := fs_some hq
    have v2 := v
    rw [e1] at v2
    obtain ⟨hb, q1, q2, q3⟩ := srem (K := K) (n := n) hn v2
    obtain ⟨hd, s1, s2, s3⟩ := mid (r1 ++ r3) hb q2 q3
    have hl : l.length = r1.length + 1 + r3.length := by rw [e1]; simp; omega
    have e5 : ¬ nI r1.length = -1 := by rw [x_nm1 (by omega)]; exact not_false
    refine ⟨hd, ?_, ?_, s3⟩
    · simp only [f8_keep, h4, sfind hn v, hq, ix, Nat.zero_add, x_bp, if_neg e5, q1]; exact s1
    · simpa only [kpS, kpD, hq] using s2
