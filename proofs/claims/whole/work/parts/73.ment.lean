/-! the reference's entries: a row a node -/
def smq (m : Nat) (h h' : Hp) (q : Nat) : Prop := ∀ a k, m + 18 ≤ a → a ≤ m + 28 → (a = m + 18 ∨ k ≠ q) → h'.1 a k = h.1 a k ∧ h'.2.1 a k = h.2.1 a k
def mE0 (m : Nat) (h : Hp) (nd b : Nat) (l : List En) : Prop := ∀ i e, l[i]? = some e → agR h m (64 * nd + b + i) e
def lcE (m nd : Nat) (h h' : Hp) : Prop := (∀ a k, ¬ ((a = m + 18 ∧ k = nd) ∨ (m + 19 ≤ a ∧ a ≤ m + 28 ∧ 64 * nd ≤ k ∧ k < 64 * nd + 64)) → h'.1 a k = h.1 a k ∧ h'.2.1 a k = h.2.1 a k) ∧ h'.2.2 = h.2.2
def ixM {α : Type} (nd b : Nat) : Option (List α × α × List α) → Int32
  | none => -1
  | some r => nI (64 * nd + (b + r.1.length))
section MEnt
variable {K : Ly} {n m j : Nat} {N : Nat → Nat} {aw : Int32}
theorem ixM_p {α : Type} {pr : α → Bool} {a : α} {w : List α} {nd b : Nat} (hp : pr a = true) : ixM nd b (fs pr (a :: w)) = nI (64 * nd + b) := by simp [fs, hp, ixM]
theorem ixM_n {α : Type} {pr : α → Bool} {a : α} {w : List α} {nd b : Nat} (hp : pr a = false) : ixM nd b (fs pr (a :: w)) = ixM nd (b + 1) (fs pr w) := by
  simp only [fs, hp, Bool.false_eq_true, if_false]
  cases fs pr w with
  | none => rfl
  | some r => simp only [Option.map_some, ixM, List.length_cons]; congr 1; omega
theorem smq.rf {h : Hp} {q : Nat} : smq m h h q := fun _ _ _ _ _ => ⟨rfl, rfl⟩
theorem smq.tr {h h1 h2 : Hp} {q : Nat} (q1 : smq m h h1 q) (q2 : smq m h1 h2 q) : smq m h h2 q := fun a k h1 h2 h3 =>
  have u := q1 a k h1 h2 h3
  have w := q2 a k h1 h2 h3
  ⟨w.1.trans u.1, w.2.trans u.2⟩
theorem smq.I {h h1 : Hp} {q b : Nat} {x : Int32} (hb : m + 18 < b) (w : smq m h h1 q) : smq m h (sI h1 b q x) q := fun a k h1 h2 h3 => by
  have u := w a k h1 h2 h3
  exact ⟨by rw [rI_n (by omega)]; exact u.1, u.2⟩
theorem smq.L {h h1 : Hp} {q b : Nat} {x : Int64} (hb : m + 18 < b) (w : smq m h h1 q) : smq m h (sL h1 b q x) q := fun a k h1 h2 h3 => by
  have u := w a k h1 h2 h3
  exact ⟨u.1, by rw [rL_n (by omega)]; exact u.2⟩
theorem smq.ch {R : List Nat} {h h1 : Hp} {q : Nat} (w : ChM R m h h1) (hd : dj [18, 19, 20, 21, 22, 23, 24, 25, 26, 27, 28] R = true) : smq m h h1 q := fun a k h1 h2 _ => by
  obtain ⟨b, rfl⟩ : ∃ b, a = m + b := ⟨a - m, by omega⟩
  have hm : b ∈ [18, 19, 20, 21, 22, 23, 24, 25, 26, 27, 28] := by simp only [List.mem_cons, List.not_mem_nil, or_false]; omega
  exact ⟨w.a (by omega) (dj_n hd hm) k, w.l (by omega) (dj_n hd hm) k⟩
theorem agR_kp {h h' : Hp} {x : Nat} {e : En} (v : agR h m x e) (g : ∀ a, m + 19 ≤ a → a ≤ m + 28 → h'.1 a x = h.1 a x ∧ h'.2.1 a x = h.2.1 a x) : agR h' m x e := by
  unfold agR
  rw [(g (m + 19) (by omega) (by omega)).1, (g (m + 20) (by omega) (by omega)).1, (g (m + 21) (by omega) (by omega)).1, (g (m + 22) (by omega) (by omega)).2, (g (m + 23) (by omega) (by omega)).2, (g (m + 24) (by omega) (by omega)).1, (g (m + 25) (by omega) (by omega)).1, (g (m + 26) (by omega) (by omega)).1, (g (m + 27) (by omega) (by omega)).1, (g (m + 28) (by omega) (by omega)).1]
  exact v
theorem mE0.app {nd b : Nat} {h : Hp} {u w : List En} (h1 : mE0 m h nd b u) (h2 : mE0 m h nd (b + u.length) w) : mE0 m h nd b (u ++ w) := fun i t ht => by
  by_cases hi : i < u.length
  · rw [List.getElem?_append_left hi] at ht; exact h1 i t ht
  · rw [List.getElem?_append_right (by omega)] at ht
    have := h2 (i - u.length) t ht
    rw [show 64 * nd + (b + u.length) + (i - u.length) = 64 * nd + b + i by omega] at this
    exact this
theorem lcE.rf {nd : Nat} {h : Hp} : lcE m nd h h := ⟨fun _ _ _ => ⟨rfl, rfl⟩, rfl⟩
theorem lcE.tr {nd : Nat} {h h1 h2 : Hp} (q1 : lcE m nd h h1) (q2 : lcE m nd h1 h2) : lcE m nd h h2 := ⟨fun a k ha => ⟨(q2.1 a k ha).1.trans (q1.1 a k ha).1, (q2.1 a k ha).2.trans (q1.1 a k ha).2⟩, q2.2.trans q1.2⟩
theorem lcE.I {nd a k : Nat} {x : Int32} {h h1 : Hp} (ha : (a = m + 18 ∧ k = nd) ∨ (m + 19 ≤ a ∧ a ≤ m + 28 ∧ 64 * nd ≤ k ∧ k < 64 * nd + 64)) (q1 : lcE m nd h h1) : lcE m nd h (sI h1 a k x) := ⟨fun b i hb => ⟨by rw [rI_n (by omega)]; exact (q1.1 b i hb).1, (q1.1 b i hb).2⟩, q1.2⟩
theorem lcE.L {nd a k : Nat} {x : Int64} {h h1 : Hp} (ha : m + 19 ≤ a ∧ a ≤ m + 28 ∧ 64 * nd ≤ k ∧ k < 64 * nd + 64) (q1 : lcE m nd h h1) : lcE m nd h (sL h1 a k x) := ⟨fun b i hb => ⟨(q1.1 b i hb).1, by rw [rL_n (by omega)]; exact (q1.1 b i hb).2⟩, q1.2⟩
theorem lcE.ch {nd : Nat} {h h1 : Hp} (q : lcE m nd h h1) : ChM [18, 19, 20, 21, 22, 23, 24, 25, 26, 27, 28] m h h1 := fun a k ha => by
  have := q.1 a k (fun hh => ha ?_)
  · exact ⟨this.1, this.2, by rw [q.2]⟩
  · rcases hh with ⟨rfl, -⟩ | ⟨h1, h2, -⟩
    · rw [rm_a (by omega)]; simp
    · obtain ⟨b, rfl⟩ : ∃ b, a = m + b := ⟨a - m, by omega⟩
      rw [rm_a (by omega)]; simp only [List.mem_cons, List.not_mem_nil, or_false]; omega
theorem mE1.o {nd nd' : Nat} {h h1 : Hp} {l : List En} (v : mE1 m h nd' l) (q : lcE m nd h h1) (hne : nd' ≠ nd) : mE1 m h1 nd' l := by
  obtain ⟨v1, v2, v3⟩ := v
  refine ⟨?_, v2, fun i e he => agR_kp (v3 i e he) (fun a h1 h2 => q.1 a _ ?_)⟩
  · rw [(q.1 (m + 18) nd' (by omega)).1]; exact v1
  · have := (List.getElem?_eq_some_iff.mp he).1
    omega
theorem mentry_L {h : Hp} {nd : Nat} {nm ws : Int32} {l : List En} (hnd : nd < 6) (v : mE1 m h nd l) (ha : ∀ e ∈ l, e.1 0 = nI nd) : ∀ (w u : List En) (fu : Nat), l = u ++ w → w.length < fu → f11_entryOf_L3 K n m (nI nd) nm ws h fu (nI u.length) = some (ixM nd u.length (fs (isE nd nm ws) w)) := by
  have v1 := v.2.1
  have i6 : inb (nI nd) 6 = true := x_in (by omega) (by omega)
  have i7 : (nI nd).toNatClampNeg = nd := x_cl (by omega)
  intro w
  induction w with
  | nil =>
    intro u fu hl hf
    obtain ⟨fu, rfl⟩ : ∃ g, fu = g + 1 := ⟨fu - 1, by omega⟩
    have e0 : h.1 (m + 18) nd ≤ nI u.length := by rw [v.1, hl]; simp only [List.append_nil]; exact nI_le (Nat.le_refl _) (by rw [hl] at v1; simp at v1; omega)
    simp only [f11_entryOf_L3, i6, i7, x_gd, if_pos e0]; rfl
  | cons t w ih =>
    intro u fu hl hf
    obtain ⟨fu, rfl⟩ : ∃ g, fu = g + 1 := ⟨fu - 1, by omega⟩
    have hl2 : l.length = u.length + 1 + w.length := by rw [hl]; simp; omega
    have e0 : ¬ h.1 (m + 18) nd ≤ nI u.length := by rw [v.1]; exact nI_ge (by omega) (by omega)
    have e1 := v.2.2 u.length t (by rw [hl, ge_mid])
    have t0 := ha t (by rw [hl]; simp)
    have e4 : (64 : Int32) * nI nd + nI u.length = nI (64 * nd + u.length) := by rw [l_64, pk_mul, nI_add]
    have e5 : inb (nI (64 * nd + u.length)) 384 = true := x_in (by omega) (by omega)
    have e6 : (nI (64 * nd + u.length)).toNatClampNeg = 64 * nd + u.length := x_cl (by omega)
    simp only [f11_entryOf_L3, i6, i7, x_gd, if_neg e0, e4, e5, e6, e1.1, e1.2.1, x_lt, nI_1]
    have ih := ih (u ++ [t]) fu (by simp [hl]) (by simp at hf; omega)
    rw [← len_sn (t := t)] at ih
    have fin : isE nd nm ws t = false → f11_entryOf_L3 K n m (nI nd) nm ws h fu (nI (u.length + 1)) = some (ixM nd u.length (fs (isE nd nm ws) (t :: w))) := fun hh => by rw [ih, ixM_n hh]; simp
    by_cases c1 : t.1 1 = nm
    · rw [if_pos c1]
      by_cases c2 : t.1 2 = ws
      · rw [if_pos c2, ixM_p (by simp [isE, t0, c1, c2])]
      · rw [if_neg c2]; exact fin (by simp [isE, c2])
    · rw [if_neg c1]; exact fin (by simp [isE, c1])
theorem mentry {h : Hp} {nd : Nat} {nm ws : Int32} {L : List En} (hnd : nd < 6) (hn : 100 ≤ n) (v : mvE m h L) : f11_entryOf K n m (nI nd) nm ws h = some (ixM nd 0 ((fs (isE nd nm ws) L).map (fun r => (r.1.filter (atN nd), r.2.1, r.2.2.filter (atN nd))))) := by
  have v1 := (v nd hnd).2.1
  have := mentry_L (K := K) (n := n) (nm := nm) (ws := ws) hnd (v nd hnd) (fun e he => by simpa [atN] using (List.mem_filter.mp he).2) _ [] n rfl (by omega)
  rw [fs_filter (fun e he => by simp [isE] at he; simp [atN, he.1])] at this
  exact this
theorem mfirstFor_L {h : Hp} {nd : Nat} {nm : Int32} {fr : Bool} {l : List En} (hnd : nd < 6) (v : mE1 m h nd l) (ha : ∀ e ∈ l, e.1 0 = nI nd) : ∀ (w u : List En) (fu : Nat), l = u ++ w → w.length < fu → f11_firstFor_L3 K n m (nI nd) nm (if fr = true then 1 else 0) h fu (nI u.length) = some (ixM nd u.length (fs (isV nd nm fr) w)) := by
  have v1 := v.2.1
  have i6 : inb (nI nd) 6 = true := x_in (by omega) (by omega)
  have i7 : (nI nd).toNatClampNeg = nd := x_cl (by omega)
  intro w
  induction w with
  | nil =>
    intro u fu hl hf
    obtain ⟨fu, rfl⟩ : ∃ g, fu = g + 1 := ⟨fu - 1, by omega⟩
    have e0 : h.1 (m + 18) nd ≤ nI u.length := by rw [v.1, hl]; simp only [List.append_nil]; exact nI_le (Nat.le_refl _) (by rw [hl] at v1; simp at v1; omega)
    simp only [f11_firstFor_L3, i6, i7, x_gd, if_pos e0]; rfl
  | cons t w ih =>
    intro u fu hl hf
    obtain ⟨fu, rfl⟩ : ∃ g, fu = g + 1 := ⟨fu - 1, by omega⟩
    have hl2 : l.length = u.length + 1 + w.length := by rw [hl]; simp; omega
    have e0 : ¬ h.1 (m + 18) nd ≤ nI u.length := by rw [v.1]; exact nI_ge (by omega) (by omega)
    have e1 := v.2.2 u.length t (by rw [hl, ge_mid])
    have t0 := ha t (by rw [hl]; simp)
    have e4 : (64 : Int32) * nI nd + nI u.length = nI (64 * nd + u.length) := by rw [l_64, pk_mul, nI_add]
    have e5 : inb (nI (64 * nd + u.length)) 384 = true := x_in (by omega) (by omega)
    have e6 : (nI (64 * nd + u.length)).toNatClampNeg = 64 * nd + u.length := x_cl (by omega)
    simp only [f11_firstFor_L3, i6, i7, x_gd, if_neg e0, e4, e5, e6, e1.1, e1.2.1, x_lt, nI_1, f11_firstFor_J49]
    have ih := ih (u ++ [t]) fu (by simp [hl]) (by simp at hf; omega)
    rw [← len_sn (t := t)] at ih
    have fin : isV nd nm fr t = false → f11_firstFor_L3 K n m (nI nd) nm (if fr = true then 1 else 0) h fu (nI (u.length + 1)) = some (ixM nd u.length (fs (isV nd nm fr) (t :: w))) := fun hh => by rw [ih, ixM_n hh]; simp
    by_cases c1 : t.1 1 = nm
    · rw [if_pos c1]
      by_cases c2 : t.1 2 = 0
      · rw [if_pos c2, ixM_p (by simp [isV, t0, c1, c2])]
      · rw [if_neg c2]
        cases fr with
        | false => rw [if_pos (show (if false = true then (1 : Int32) else 0) = 0 by decide)]; exact fin (by simp [isV, c2])
        | true => rw [if_pos rfl, if_neg b_10, ixM_p (by simp [isV, t0, c1])]
    · rw [if_neg c1]; exact fin (by simp [isV, c1])
theorem mfirstFor {h : Hp} {nd : Nat} {nm : Int32} {fr : Bool} {L : List En} (hnd : nd < 6) (hn : 100 ≤ n) (v : mvE m h L) : f11_firstFor K n m (nI nd) nm (if fr = true then 1 else 0) h = some (ixM nd 0 ((fs (isV nd nm fr) L).map (fun r => (r.1.filter (atN nd), r.2.1, r.2.2.filter (atN nd))))) := by
  have v1 := (v nd hnd).2.1
  have := mfirstFor_L (K := K) (n := n) (nm := nm) (fr := fr) hnd (v nd hnd) (fun e he => by simpa [atN] using (List.mem_filter.mp he).2) _ [] n rfl (by omega)
  rw [fs_filter (fun e he => by simp [isV] at he; simp [atN, he.1])] at this
  exact this
theorem mrem_L {nd : Nat} (hnd : nd < 6) : ∀ (w u : List En) (fu : Nat) (h : Hp), u.length + w.length ≤ 63 → h.1 (m + 18) nd = nI (u.length + w.length) → mE0 m h nd 0 u → mE0 m h nd (u.length + 1) w → w.length < fu → ∃ h', f11_removes_L12 K n m (nI nd) fu (nI (64 * nd + u.length)) h = some h' ∧ mE0 m h' nd 0 (u ++ w) ∧ h'.1 (m + 18) nd = h.1 (m + 18) nd ∧ lcE m nd h h' := by
  have i6 : inb (nI nd) 6 = true := x_in (by omega) (by omega)
  have i7 : (nI nd).toNatClampNeg = nd := x_cl (by omega)
  intro w
  induction w with
  | nil =>
    intro u fu h h1 h2 h3 h4 hf
    obtain ⟨fu, rfl⟩ : ∃ g, fu = g + 1 := ⟨fu - 1, by omega⟩
    have h1 : u.length ≤ 63 := by simpa using h1
    have h2 : h.1 (m + 18) nd = nI u.length := by simpa using h2
    have e4 : (64 : Int32) * nI nd + nI u.length = nI (64 * nd + u.length) := by rw [l_64, pk_mul, nI_add]
    refine ⟨h, ?_, by simpa using h3, rfl, lcE.rf⟩
    simp only [f11_removes_L12, i6, i7, x_gd, h2, e4, if_pos (nI_le (Nat.le_refl (64 * nd + u.length)) (by omega))]
  | cons t w ih =>
    intro u fu h h1 h2 h3 h4 hf
    obtain ⟨fu, rfl⟩ : ∃ g, fu = g + 1 := ⟨fu - 1, by omega⟩
    simp only [List.length_cons] at h1 h2 hf
    have e4 : (64 : Int32) * nI nd + nI (u.length + (w.length + 1)) = nI (64 * nd + (u.length + (w.length + 1))) := by rw [l_64, pk_mul, nI_add]
    have e0 : ¬ nI (64 * nd + (u.length + (w.length + 1))) ≤ nI (64 * nd + u.length) := nI_ge (by omega) (by omega)
    have e5 : inb (nI (64 * nd + u.length)) 384 = true := x_in (by omega) (by omega)
    have e6 : (nI (64 * nd + u.length)).toNatClampNeg = 64 * nd + u.length := x_cl (by omega)
    have e7 : inb (nI (64 * nd + u.length + 1)) 384 = true := x_in (by omega) (by omega)
    have e8 : (nI (64 * nd + u.length + 1)).toNatClampNeg = 64 * nd + u.length + 1 := x_cl (by omega)
    have tt := h4 0 t (by simp)
    rw [show 64 * nd + (u.length + 1) + 0 = 64 * nd + u.length + 1 by omega] at tt
    obtain ⟨t1, t2, t3, t4, t5, t6, t7, t8, t9, t10⟩ := tt
    obtain ⟨x, hx⟩ : ∃ x, x = 64 * nd + u.length := ⟨_, rfl⟩
    rw [← hx] at e0 e5 e6 e7 e8 t1 t2 t3 t4 t5 t6 t7 t8 t9 t10
    obtain ⟨h1', eh⟩ : ∃ h1', h1' = sI (sI (sI (sI (sI (sL (sL (sI (sI (sI h (m + 19) x (t.1 1)) (m + 20) x (t.1 2)) (m + 21) x (t.1 3)) (m + 22) x (t.2 4)) (m + 23) x (t.2 5)) (m + 24) x (t.1 6)) (m + 25) x (t.1 7)) (m + 26) x (t.1 8)) (m + 27) x (t.1 9)) (m + 28) x (t.1 10) := ⟨_, rfl⟩
    have lc : lcE m nd h h1' := by rw [eh]; exact lcE.I (by omega) (lcE.I (by omega) (lcE.I (by omega) (lcE.I (by omega) (lcE.I (by omega) (lcE.L (by omega) (lcE.L (by omega) (lcE.I (by omega) (lcE.I (by omega) (lcE.I (by omega) lcE.rf)))))))))
    have sq : smq m h h1' x := by rw [eh]; exact smq.I (by omega) (smq.I (by omega) (smq.I (by omega) (smq.I (by omega) (smq.I (by omega) (smq.L (by omega) (smq.L (by omega) (smq.I (by omega) (smq.I (by omega) (smq.I (by omega) smq.rf)))))))))
    have c1 : h1'.1 (m + 18) nd = h.1 (m + 18) nd := (sq (m + 18) nd (by omega) (by omega) (Or.inl rfl)).1
    have agx : agR h1' m x t := by
      unfold agR
      rw [eh]
      simp (disch := omega) only [rI_n, rI_e, rL_i, rI_l, rL_n, rL_e]
      exact ⟨trivial, trivial, trivial, trivial, trivial, trivial, trivial, trivial, trivial, trivial⟩
    obtain ⟨h', q1, q2, q3, q4⟩ := ih (u ++ [t]) fu h1' (by simp; omega) (by rw [c1, h2]; congr 1; simp; omega) (by
        refine mE0.app (fun i t' ht => ?_) (fun i t' ht => ?_)
        · have hi := (List.getElem?_eq_some_iff.mp ht).1
          exact agR_kp (h3 i t' ht) (fun a a1 a2 => sq a _ (by omega) a2 (Or.inr (by omega)))
        · have hi := (List.getElem?_eq_some_iff.mp ht).1
          simp only [List.length_cons, List.length_nil] at hi
          obtain rfl : i = 0 := by omega
          simp only [List.getElem?_cons_zero, Option.some.injEq] at ht
          subst ht
          rw [show 64 * nd + (0 + u.length) + 0 = x by omega]; exact agx) (fun i t' ht => by
        have := h4 (i + 1) t' (by simpa using ht)
        rw [show 64 * nd + (u.length + 1) + (i + 1) = 64 * nd + ((u ++ [t]).length + 1) + i by simp; omega] at this
        exact agR_kp this (fun a a1 a2 => sq a _ (by omega) a2 (Or.inr (by simp; omega)))) (by omega)
    refine ⟨h', ?_, by simpa using q2, q3.trans c1, lc.tr q4⟩
    rw [(by simp : (u ++ [t]).length = u.length + 1), show 64 * nd + (u.length + 1) = x + 1 by omega] at q1
    rw [← hx]
    simp only [f11_removes_L12, i6, i7, x_gd, h2, e4, if_neg e0, nI_1, e5, e6, e7, e8, x_lt]
    simp (disch := omega) only [rI_n, rL_i, rI_l, rL_n, t1, t2, t3, t4, t5, t6, t7, t8, t9, t10]
    rw [← eh]; exact q1
theorem mremoves {nd : Nat} {h : Hp} {u w : List En} {e : En} (hnd : nd < 6) (hn : 100 ≤ n) (hl : (u ++ e :: w).length ≤ 64) (h1 : h.1 (m + 18) nd = nI (u ++ e :: w).length) (h2 : mE0 m h nd 0 (u ++ e :: w)) : ∃ h', f11_removes K n m (nI nd) (nI (64 * nd + u.length)) h = some h' ∧ mE1 m h' nd (u ++ w) ∧ lcE m nd h h' := by
  have i6 : inb (nI nd) 6 = true := x_in (by omega) (by omega)
  have i7 : (nI nd).toNatClampNeg = nd := x_cl (by omega)
  have hl2 : (u ++ e :: w).length = u.length + w.length + 1 := by simp; omega
  obtain ⟨h0, eh⟩ : ∃ h0, h0 = sI h (m + 18) nd (nI (u.length + w.length)) := ⟨_, rfl⟩
  have rd : ∀ a k, m + 19 ≤ a → a ≤ m + 28 → h0.1 a k = h.1 a k ∧ h0.2.1 a k = h.2.1 a k := fun a k h1 h2 => by rw [eh]; exact ⟨rI_n (by omega), rfl⟩
  obtain ⟨h', q1, q2, q3, q4⟩ := mrem_L (K := K) (n := n) (m := m) hnd w u n h0 (by omega) (by rw [eh, rI_e]) (fun i t' ht => by
      have hi := (List.getElem?_eq_some_iff.mp ht).1
      exact agR_kp (h2 i t' (by rw [List.getElem?_append_left hi]; exact ht)) (fun a a1 a2 => rd a _ a1 a2)) (fun i t' ht => by
      have := h2 (u.length + 1 + i) t' (by rw [List.getElem?_append_right (by omega), show u.length + 1 + i - u.length = i + 1 by omega, List.getElem?_cons_succ]; exact ht)
      rw [show 64 * nd + 0 + (u.length + 1 + i) = 64 * nd + (u.length + 1) + i by omega] at this
      exact agR_kp this (fun a a1 a2 => rd a _ a1 a2)) (by omega)
  refine ⟨h', ?_, ⟨?_, by simp; omega, fun i t' ht => ?_⟩, (by rw [eh]; exact lcE.I (by omega) lcE.rf : lcE m nd h h0).tr q4⟩
  · simp only [f11_removes, i6, i7, x_gd, h1, hl2, nI_pred, x_lt]
    rw [← eh]; exact q1
  · rw [q3, eh, rI_e]; simp
  · have := q2 i t' ht
    simpa using this
/-! entries of all nodes -/
theorem flt_mid {nd : Nat} {U Wl : List En} {e : En} (he : e.1 0 = nI nd) : (U ++ e :: Wl).filter (atN nd) = U.filter (atN nd) ++ e :: Wl.filter (atN nd) := by
  rw [List.filter_append, List.filter_cons_of_pos (by simp [atN, he])]
theorem flt_no {nd nd' : Nat} {U Wl : List En} {e e' : En} (h1 : nd < 6) (h2 : nd' < 6) (hne : nd' ≠ nd) (he : e.1 0 = nI nd) (he' : e'.1 0 = nI nd) : (U ++ e' :: Wl).filter (atN nd') = (U ++ e :: Wl).filter (atN nd') := by
  have x : ∀ f : En, f.1 0 = nI nd → ¬ atN nd' f = true := fun f hf => by
    simp only [atN, hf, decide_eq_true_eq]
    rw [x_eq (by omega) (by omega)]; omega
  rw [List.filter_append, List.filter_append, List.filter_cons_of_neg (x e he), List.filter_cons_of_neg (x e' he')]
theorem flt_del {nd nd' : Nat} {U Wl : List En} {e : En} (h1 : nd < 6) (h2 : nd' < 6) (hne : nd' ≠ nd) (he : e.1 0 = nI nd) : (U ++ Wl).filter (atN nd') = (U ++ e :: Wl).filter (atN nd') := by
  have x : ¬ atN nd' e = true := by
    simp only [atN, he, decide_eq_true_eq]
    rw [x_eq (by omega) (by omega)]; omega
  rw [List.filter_append, List.filter_append, List.filter_cons_of_neg x]
theorem mvE_at {h : Hp} {nd : Nat} {U Wl : List En} {e : En} (hnd : nd < 6) (he : e.1 0 = nI nd) (v : mvE m h (U ++ e :: Wl)) : (U.filter (atN nd)).length ≤ 62 ∧ agR h m (64 * nd + (U.filter (atN nd)).length) e ∧ ∀ h' e', e'.1 0 = nI nd → smq m h h' (64 * nd + (U.filter (atN nd)).length) → agR h' m (64 * nd + (U.filter (atN nd)).length) e' → mvE m h' (U ++ e' :: Wl) := by
  have v0 := v nd hnd
  rw [flt_mid he] at v0
  obtain ⟨a1, a2, a3⟩ := v0
  have l2 : (U.filter (atN nd)).length ≤ 62 := by simp at a2; omega
  refine ⟨l2, a3 _ _ ge_mid, fun h' e' he' q ag nd' hnd' => ?_⟩
  by_cases hd : nd' = nd
  · subst hd
    rw [flt_mid he']
    refine ⟨?_, by simp at a2 ⊢; omega, fun i f hf => ?_⟩
    · rw [(q (m + 18) nd' (by omega) (by omega) (Or.inl rfl)).1, a1]; simp
    · by_cases hi : i = (U.filter (atN nd')).length
      · subst hi; rw [ge_mid] at hf; cases hf; exact ag
      · have hf2 : (U.filter (atN nd') ++ e :: Wl.filter (atN nd'))[i]? = some f := by
          rw [← hf]
          simp only [List.getElem?_append, List.getElem?_cons]
          split
          · rfl
          · rw [if_neg (by omega), if_neg (by omega)]
        exact agR_kp (a3 i f hf2) (fun a b1 b2 => q a _ (by omega) b2 (Or.inr (by omega)))
  · rw [flt_no hnd hnd' hd he he']
    obtain ⟨b1, b2, b3⟩ := v nd' hnd'
    refine ⟨?_, b2, fun i f hf => ?_⟩
    · rw [(q (m + 18) nd' (by omega) (by omega) (Or.inl rfl)).1]; exact b1
    · have := (List.getElem?_eq_some_iff.mp hf).1
      exact agR_kp (b3 i f hf) (fun a c1 c2 => q a _ (by omega) c2 (Or.inr (by omega)))
theorem mvE_del {h h' : Hp} {nd : Nat} {U Wl : List En} {e : En} (hnd : nd < 6) (he : e.1 0 = nI nd) (v : mvE m h (U ++ e :: Wl)) (q : lcE m nd h h') (v' : mE1 m h' nd (U.filter (atN nd) ++ Wl.filter (atN nd))) : mvE m h' (U ++ Wl) := by
  intro nd' hnd'
  by_cases hd : nd' = nd
  · subst hd; rw [List.filter_append]; exact v'
  · rw [flt_del hnd hnd' hd he]; exact (v nd' hnd').o q hd
theorem mvE_push {h h' : Hp} {nd : Nat} {L : List En} {e : En} (hnd : nd < 6) (he : e.1 0 = nI nd) (v : mvE m h L) (hl : (L.filter (atN nd)).length ≤ 62) (q : ∀ a k, m + 18 ≤ a → a ≤ m + 28 → ¬ (a = m + 18 ∧ k = nd) → (a = m + 18 ∨ k ≠ 64 * nd + (L.filter (atN nd)).length) → h'.1 a k = h.1 a k ∧ h'.2.1 a k = h.2.1 a k) (hc : h'.1 (m + 18) nd = nI ((L.filter (atN nd)).length + 1)) (ag : agR h' m (64 * nd + (L.filter (atN nd)).length) e) : mvE m h' (L ++ [e]) := by
  intro nd' hnd'
  by_cases hd : nd' = nd
  · subst hd
    rw [List.filter_append, show [e].filter (atN nd') = [e] by simp [atN, he]]
    obtain ⟨a1, a2, a3⟩ := v nd' hnd
    refine ⟨by rw [hc]; simp, by simp; omega, fun i f hf => ?_⟩
    by_cases hi : i < (L.filter (atN nd')).length
    · rw [List.getElem?_append_left hi] at hf
      exact agR_kp (a3 i f hf) (fun a b1 b2 => q a _ (by omega) b2 (by omega) (Or.inr (by omega)))
    · have hi2 : i = (L.filter (atN nd')).length := by
        have := (List.getElem?_eq_some_iff.mp hf).1
        simp at this; omega
      subst hi2
      rw [ge_mid] at hf; cases hf; exact ag
  · have x : ¬ atN nd' e = true := by
      simp only [atN, he, decide_eq_true_eq]
      rw [x_eq (by omega) (by omega)]; omega
    rw [List.filter_append, List.filter_cons_of_neg x, List.filter_nil, List.append_nil]
    obtain ⟨b1, b2, b3⟩ := v nd' hnd'
    refine ⟨?_, b2, fun i f hf => ?_⟩
    · rw [(q (m + 18) nd' (by omega) (by omega) (by omega) (Or.inl rfl)).1]; exact b1
    · have := (List.getElem?_eq_some_iff.mp hf).1
      exact agR_kp (b3 i f hf) (fun a c1 c2 => q a _ (by omega) c2 (by omega) (Or.inr (by omega)))
end MEnt
