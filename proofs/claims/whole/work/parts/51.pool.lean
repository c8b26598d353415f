/-! the class's side: regions of a Course at c; rows of objects that are used again (entries, messages) -/
def rgC (c a k : Nat) : Nat :=
  if a = c then (if k = 6 then 1 else if k = 8 then 2 else if k = 2 then 11 else if k = 3 then 12 else if k = 4 then 13 else 0)
  else if a = c + 14 then 1 else if a = c + 15 then 2 else if a = c + 16 then 3 else if a = c + 17 then 4 else if a = c + 18 then 5
  else if a = c + 19 then 6 else if a = c + 20 then 7 else if a = c + 21 then 8 else if a = c + 22 then (if k = 6 then 14 else 9)
  else if a < c + 23 then 10 else if a < c + 743 then (if (a - c) % 2 = 1 then 1 else 2)
  else if a < c + 767 then 7 else if a < c + 827 then 8 else 10
theorem rg_e {c j k : Nat} (hj : j < 360) : rgC c (c + 23 + 2 * j) k = 1 := by
  unfold rgC; rw [if_neg (by omega), if_neg (by omega), if_neg (by omega), if_neg (by omega), if_neg (by omega), if_neg (by omega), if_neg (by omega), if_neg (by omega), if_neg (by omega), if_neg (by omega), if_neg (by omega), if_pos (by omega), if_pos (by omega)]
theorem rg_m {c j k : Nat} (hj : j < 360) : rgC c (c + 24 + 2 * j) k = 2 := by
  unfold rgC; rw [if_neg (by omega), if_neg (by omega), if_neg (by omega), if_neg (by omega), if_neg (by omega), if_neg (by omega), if_neg (by omega), if_neg (by omega), if_neg (by omega), if_neg (by omega), if_neg (by omega), if_pos (by omega), if_neg (by omega)]
theorem rg_s {c a k : Nat} (h1 : c + 743 ≤ a) (h2 : a < c + 767) : rgC c a k = 7 := by
  unfold rgC; rw [if_neg (by omega), if_neg (by omega), if_neg (by omega), if_neg (by omega), if_neg (by omega), if_neg (by omega), if_neg (by omega), if_neg (by omega), if_neg (by omega), if_neg (by omega), if_neg (by omega), if_neg (by omega), if_pos (by omega)]
theorem rg_f {c a k : Nat} (h1 : c + 767 ≤ a) (h2 : a < c + 827) : rgC c a k = 8 := by
  unfold rgC; rw [if_neg (by omega), if_neg (by omega), if_neg (by omega), if_neg (by omega), if_neg (by omega), if_neg (by omega), if_neg (by omega), if_neg (by omega), if_neg (by omega), if_neg (by omega), if_neg (by omega), if_neg (by omega), if_neg (by omega), if_pos (by omega)]
theorem rg_o {c a k : Nat} (h : a < c ∨ c + 827 ≤ a) : rgC c a k = 10 := by
  unfold rgC
  rcases h with h | h
  · rw [if_neg (by omega), if_neg (by omega), if_neg (by omega), if_neg (by omega), if_neg (by omega), if_neg (by omega), if_neg (by omega), if_neg (by omega), if_neg (by omega), if_neg (by omega), if_pos (by omega)]
  · rw [if_neg (by omega), if_neg (by omega), if_neg (by omega), if_neg (by omega), if_neg (by omega), if_neg (by omega), if_neg (by omega), if_neg (by omega), if_neg (by omega), if_neg (by omega), if_neg (by omega), if_neg (by omega), if_neg (by omega), if_neg (by omega)]
theorem rg_c6 {c : Nat} : rgC c c 6 = 1 := by simp [rgC]
theorem rg_c8 {c : Nat} : rgC c c 8 = 2 := by simp [rgC]
theorem rg_c2 {c : Nat} : rgC c c 2 = 11 := by simp [rgC]
theorem rg_c3 {c : Nat} : rgC c c 3 = 12 := by simp [rgC]
theorem rg_c4 {c : Nat} : rgC c c 4 = 13 := by simp [rgC]
theorem rg_c0 {c : Nat} : rgC c c 0 = 0 := by simp [rgC]
theorem rg_c1 {c : Nat} : rgC c c 1 = 0 := by simp [rgC]
theorem rg_14 {c k : Nat} : rgC c (c + 14) k = 1 := by unfold rgC; rw [if_neg (by omega), if_pos rfl]
theorem rg_15 {c k : Nat} : rgC c (c + 15) k = 2 := by unfold rgC; rw [if_neg (by omega), if_neg (by omega), if_pos rfl]
theorem rg_16 {c k : Nat} : rgC c (c + 16) k = 3 := by unfold rgC; rw [if_neg (by omega), if_neg (by omega), if_neg (by omega), if_pos rfl]
theorem rg_17 {c k : Nat} : rgC c (c + 17) k = 4 := by unfold rgC; rw [if_neg (by omega), if_neg (by omega), if_neg (by omega), if_neg (by omega), if_pos rfl]
theorem rg_18 {c k : Nat} : rgC c (c + 18) k = 5 := by unfold rgC; rw [if_neg (by omega), if_neg (by omega), if_neg (by omega), if_neg (by omega), if_neg (by omega), if_pos rfl]
theorem rg_19 {c k : Nat} : rgC c (c + 19) k = 6 := by unfold rgC; rw [if_neg (by omega), if_neg (by omega), if_neg (by omega), if_neg (by omega), if_neg (by omega), if_neg (by omega), if_pos rfl]
theorem rg_20 {c k : Nat} : rgC c (c + 20) k = 7 := by unfold rgC; rw [if_neg (by omega), if_neg (by omega), if_neg (by omega), if_neg (by omega), if_neg (by omega), if_neg (by omega), if_neg (by omega), if_pos rfl]
theorem rg_21 {c k : Nat} : rgC c (c + 21) k = 8 := by unfold rgC; rw [if_neg (by omega), if_neg (by omega), if_neg (by omega), if_neg (by omega), if_neg (by omega), if_neg (by omega), if_neg (by omega), if_neg (by omega), if_pos rfl]
theorem rg_22 {c k : Nat} (hk : k ≠ 6 := by omega) : rgC c (c + 22) k = 9 := by unfold rgC; rw [if_neg (by omega), if_neg (by omega), if_neg (by omega), if_neg (by omega), if_neg (by omega), if_neg (by omega), if_neg (by omega), if_neg (by omega), if_neg (by omega), if_pos rfl, if_neg hk]
theorem rg_226 {c : Nat} : rgC c (c + 22) 6 = 14 := by unfold rgC; rw [if_neg (by omega), if_neg (by omega), if_neg (by omega), if_neg (by omega), if_neg (by omega), if_neg (by omega), if_neg (by omega), if_neg (by omega), if_neg (by omega), if_pos rfl, if_pos rfl]
/-- nothing has changed but in these regions -/
def Ch (R : List Nat) (c : Nat) (h h' : Hp) : Prop := ∀ a k, ¬ rgC c a k ∈ R → h'.1 a k = h.1 a k ∧ h'.2.1 a k = h.2.1 a k ∧ h'.2.2 a k = h.2.2 a k
theorem Ch.rf {R : List Nat} {c : Nat} {h : Hp} : Ch R c h h := fun _ _ _ => ⟨rfl, rfl, rfl⟩
theorem Ch.tr {R : List Nat} {c : Nat} {h h1 h2 : Hp} (q1 : Ch R c h h1) (q2 : Ch R c h1 h2) : Ch R c h h2 := fun a k hn =>
  have u := q1 a k hn
  have w := q2 a k hn
  ⟨w.1.trans u.1, w.2.1.trans u.2.1, w.2.2.trans u.2.2⟩
theorem Ch.up {R R' : List Nat} {c : Nat} {h h1 : Hp} (q1 : Ch R c h h1) (hs : ∀ x ∈ R, x ∈ R') : Ch R' c h h1 := fun a k hn => q1 a k (fun hh => hn (hs _ hh))
theorem Ch.I {R : List Nat} {c a k : Nat} {x : Int32} {h h1 : Hp} (r : Nat) (hr : rgC c a k = r) (hm : r ∈ R) (q : Ch R c h h1) : Ch R c h (sI h1 a k x) := fun b j hb => by
  have u := q b j hb
  refine ⟨?_, u.2.1, u.2.2⟩
  by_cases hbj : b = a ∧ j = k
  · obtain ⟨rfl, rfl⟩ := hbj
    exact absurd (hr ▸ hm) hb
  · rw [rI_n (by omega)]; exact u.1
theorem Ch.L {R : List Nat} {c a k : Nat} {x : Int64} {h h1 : Hp} (r : Nat) (hr : rgC c a k = r) (hm : r ∈ R) (q : Ch R c h h1) : Ch R c h (sL h1 a k x) := fun b j hb => by
  have u := q b j hb
  refine ⟨u.1, ?_, u.2.2⟩
  by_cases hbj : b = a ∧ j = k
  · obtain ⟨rfl, rfl⟩ := hbj
    exact absurd (hr ▸ hm) hb
  · rw [rL_n (by omega)]; exact u.2.1
theorem Ch.R {R : List Nat} {c a k : Nat} {x : Option Nat} {h h1 : Hp} (r : Nat) (hr : rgC c a k = r) (hm : r ∈ R) (q : Ch R c h h1) : Ch R c h (sR h1 a k x) := fun b j hb => by
  have u := q b j hb
  refine ⟨u.1, u.2.1, ?_⟩
  by_cases hbj : b = a ∧ j = k
  · obtain ⟨rfl, rfl⟩ := hbj
    exact absurd (hr ▸ hm) hb
  · rw [rR_n (by omega)]; exact u.2.2
abbrev En : Type := (Nat → Int32) × (Nat → Int64)
def rwo (h : Hp) (a : Nat) : En := (h.1 a, h.2.1 a)
theorem Ch.row {R : List Nat} {c a : Nat} {h h1 : Hp} (q : Ch R c h h1) (hn : ∀ k, ¬ rgC c a k ∈ R) : rwo h1 a = rwo h a := by
  unfold rwo
  rw [show h1.1 a = h.1 a from funext fun k => (q a k (hn k)).1, show h1.2.1 a = h.2.1 a from funext fun k => (q a k (hn k)).2.1]
/-- a row of 360 objects, the first of which are in use -/
def vP (ar bs ct c : Nat) (h : Hp) (p : Nat → Nat) (L : List En) : Prop :=
  (∀ i, i < 360 → p i < 360 ∧ h.2.2 (c + ar) i = some (c + bs + 2 * p i)) ∧ (∀ i j, i < 360 → j < 360 → p i = p j → i = j) ∧ L.length ≤ 360 ∧ h.1 c ct = nI L.length ∧ ∀ i, i < L.length → L[i]? = some (rwo h (c + bs + 2 * p i))
section Pool
variable {ar bs ct c : Nat} {h h' : Hp} {p : Nat → Nat} {L u w : List En} {e e' : En}
theorem vP.kp (v : vP ar bs ct c h p L) (e1 : h'.1 c ct = h.1 c ct) (e2 : ∀ i, i < 360 → h'.2.2 (c + ar) i = h.2.2 (c + ar) i) (e3 : ∀ i, i < L.length → rwo h' (c + bs + 2 * p i) = rwo h (c + bs + 2 * p i)) : vP ar bs ct c h' p L :=
  ⟨fun i hi => ⟨(v.1 i hi).1, (e2 i hi).trans (v.1 i hi).2⟩, v.2.1, v.2.2.1, e1.trans v.2.2.2.1, fun i hi => by rw [e3 i hi]; exact v.2.2.2.2 i hi⟩
theorem vP.st (v : vP ar bs ct c h p (u ++ e :: w)) (e1 : h'.1 c ct = h.1 c ct) (e2 : ∀ i, i < 360 → h'.2.2 (c + ar) i = h.2.2 (c + ar) i) (e3 : ∀ j, j < 360 → j ≠ p u.length → rwo h' (c + bs + 2 * j) = rwo h (c + bs + 2 * j)) (e4 : rwo h' (c + bs + 2 * p u.length) = e') : vP ar bs ct c h' p (u ++ e' :: w) := by
  have hl : (u ++ e' :: w).length = (u ++ e :: w).length := by simp
  refine ⟨fun i hi => ⟨(v.1 i hi).1, (e2 i hi).trans (v.1 i hi).2⟩, v.2.1, by rw [hl]; exact v.2.2.1, by rw [hl]; exact e1.trans v.2.2.2.1, fun i hi => ?_⟩
  rw [hl] at hi
  have h3 := v.2.2.1
  have h4 : u.length < (u ++ e :: w).length := by simp
  by_cases hj : i = u.length
  · subst hj; rw [e4]; simp
  · rw [e3 (p i) (v.1 i (by omega)).1 (fun hh => hj (v.2.1 _ _ (by omega) (by omega) hh))]
    rw [← v.2.2.2.2 i hi]
    simp only [List.getElem?_append, List.getElem?_cons]
    split
    · rfl
    · rw [if_neg (by omega), if_neg (by omega)]
theorem vP.mid (v : vP ar bs ct c h p (u ++ e :: w)) : u.length < 360 ∧ p u.length < 360 ∧ h.2.2 (c + ar) u.length = some (c + bs + 2 * p u.length) ∧ rwo h (c + bs + 2 * p u.length) = e := by
  have h3 := v.2.2.1
  have h4 : u.length < (u ++ e :: w).length := by simp
  have h5 := v.2.2.2.2 u.length h4
  rw [ge_mid] at h5
  exact ⟨by omega, (v.1 _ (by omega)).1, (v.1 _ (by omega)).2, (Option.some.inj h5).symm⟩
theorem vP.push (v : vP ar bs ct c h p L) (hl : L.length < 360) (e1 : h'.1 c ct = nI (L.length + 1)) (e2 : ∀ i, i < 360 → h'.2.2 (c + ar) i = h.2.2 (c + ar) i) (e3 : ∀ j, j < 360 → j ≠ p L.length → rwo h' (c + bs + 2 * j) = rwo h (c + bs + 2 * j)) (e4 : rwo h' (c + bs + 2 * p L.length) = e') : vP ar bs ct c h' p (L ++ [e']) := by
  refine ⟨fun i hi => ⟨(v.1 i hi).1, (e2 i hi).trans (v.1 i hi).2⟩, v.2.1, by simp; omega, by simpa using e1, fun i hi => ?_⟩
  have hi : i < L.length + 1 := by simpa using hi
  by_cases hj : i = L.length
  · subst hj; rw [e4]; simp
  · rw [e3 (p i) (v.1 i (by omega)).1 (fun hh => hj (v.2.1 _ _ (by omega) (by omega) hh)), ← v.2.2.2.2 i (by omega)]
    rw [List.getElem?_append_left (by omega)]
theorem vP.del (v : vP ar bs ct c h p (u ++ e :: w)) (e1 : h'.1 c ct = nI (u.length + w.length)) (e2 : ∀ j, j < 360 → h'.2.2 (c + ar) j = some (c + bs + 2 * (if j < u.length then p j else if j < u.length + w.length then p (j + 1) else if j = u.length + w.length then p u.length else p j))) (e3 : ∀ j, j < 360 → rwo h' (c + bs + 2 * j) = rwo h (c + bs + 2 * j)) : vP ar bs ct c h' (fun j => if j < u.length then p j else if j < u.length + w.length then p (j + 1) else if j = u.length + w.length then p u.length else p j) (u ++ w) := by
  have h3 := v.2.2.1
  have hl : (u ++ e :: w).length = u.length + w.length + 1 := by simp; omega
  rw [hl] at h3
  refine ⟨fun i hi => ⟨?_, e2 i hi⟩, fun i j hi hj hij => ?_, by simp; omega, by simpa using e1, fun i hi => ?_⟩
  · dsimp only
    split
    · exact (v.1 _ hi).1
    · split
      · exact (v.1 _ (by omega)).1
      · split
        · exact (v.1 _ (by omega)).1
        · exact (v.1 _ hi).1
  · dsimp only at hij
    have key := v.2.1
    split at hij <;> split at hij <;> (try split at hij) <;> (try split at hij) <;> (try split at hij) <;> (try split at hij) <;> first
      | (have := key _ _ (by omega) (by omega) hij; omega)
  · have hi : i < u.length + w.length := by simpa using hi
    dsimp only
    by_cases hu : i < u.length
    · rw [if_pos hu, e3 _ (v.1 _ (by omega)).1, ← v.2.2.2.2 i (by omega), List.getElem?_append_left hu, List.getElem?_append_left hu]
    · rw [if_neg hu, if_pos hi, e3 _ (v.1 _ (by omega)).1, ← v.2.2.2.2 (i + 1) (by omega), List.getElem?_append_right (by omega), List.getElem?_append_right (by omega)]
      rw [show i + 1 - u.length = (i - u.length) + 1 by omega, List.getElem?_cons_succ]
end Pool
/-! the class's loops over these rows -/
theorem drop_L {K : Ly} {n c x2 cnt : Nat} {p : Nat → Nat} (hK : ∀ j, j < 360 → K (c + 23 + 2 * j) = some (.inl 6)) (hp : ∀ j, j < 360 → p j < 360) (hc : cnt ≤ 360) :
    ∀ (d i fu : Nat) (h : Hp), i + d + 1 = cnt → d < fu → h.1 c 6 = nI cnt → (∀ j, i ≤ j → j < 360 → h.2.2 (c + 14) j = some (c + 23 + 2 * p j)) →
    ∃ h', f10_drop_L9 K n c x2 fu (nI i) h = some h' ∧ h'.1 = (sI h c 6 (nI (cnt - 1))).1 ∧ h'.2.1 = h.2.1 ∧ ∀ a j, h'.2.2 a j = if a = c + 14 then (if j < i then h.2.2 a j else if j < cnt - 1 then some (c + 23 + 2 * p (j + 1)) else if j = cnt - 1 then some x2 else h.2.2 a j) else h.2.2 a j := by
  intro d
  induction d with
  | zero =>
    intro i fu h hi hf h6 hr
    obtain ⟨fu, rfl⟩ : ∃ g, fu = g + 1 := ⟨fu - 1, by omega⟩
    have e1 : nI cnt ≤ nI (i + 1) := nI_le (by omega) (by omega)
    have e2 : nI cnt - 1 = nI (cnt - 1) := x_sub1 (by omega)
    have e3 : inb (nI (cnt - 1)) 360 = true := x_in (by omega) (by omega)
    have e4 : (nI (cnt - 1)).toNatClampNeg = cnt - 1 := x_cl (by omega)
    have this : f10_drop_L9 K n c x2 (fu + 1) (nI i) h = some (sR (sI h c 6 (nI (cnt - 1))) (c + 14) (cnt - 1) (some x2)) := by
      simp only [f10_drop_L9, h6, nI_1, if_pos e1, x_lt, e2, rI_e, e3, x_gd, e4]
    refine ⟨_, this, rfl, rfl, fun a j => ?_⟩
    simp only [sR, sI]
    repeat' split
    all_goals first | rfl | (exfalso; omega)
  | succ d ih =>
    intro i fu h hi hf h6 hr
    obtain ⟨fu, rfl⟩ : ∃ g, fu = g + 1 := ⟨fu - 1, by omega⟩
    have e1 : ¬ nI cnt ≤ nI (i + 1) := nI_ge (by omega) (by omega)
    have e2 : inb (nI (i + 1)) 360 = true := x_in (by omega) (by omega)
    have e3 : inb (nI i) 360 = true := x_in (by omega) (by omega)
    have e4 : (nI (i + 1)).toNatClampNeg = i + 1 := x_cl (by omega)
    have e5 : (nI i).toNatClampNeg = i := x_cl (by omega)
    have e6 := hr (i + 1) (by omega) (by omega)
    have this : f10_drop_L9 K n c x2 (fu + 1) (nI i) h = f10_drop_L9 K n c x2 fu (nI (i + 1)) (sR h (c + 14) i (some (c + 23 + 2 * p (i + 1)))) := by
      simp only [f10_drop_L9, h6, nI_1, if_neg e1, e2, e3, e4, e5, e6, x_gd, x_lt, x_ob (hK (p (i + 1)) (hp _ (by omega)))]
    obtain ⟨h', q1, q2, q3, q4⟩ := ih (i + 1) fu (sR h (c + 14) i (some (c + 23 + 2 * p (i + 1)))) (by omega) (by omega) h6 (fun j hj hj2 => by rw [rR_n (by omega)]; exact hr j (by omega) hj2)
    refine ⟨h', this.trans q1, q2, q3, fun a j => ?_⟩
    rw [q4 a j]
    simp only [sR]
    repeat' split
    all_goals first | rfl | (exfalso; omega) | (simp_all; done) | (congr 2; congr 1; congr 1; omega)
theorem land_L {K : Ly} {n c x2 cnt : Nat} {p : Nat → Nat} (hK : ∀ j, j < 360 → K (c + 24 + 2 * j) = some (.inl 7)) (hp : ∀ j, j < 360 → p j < 360) (hc : cnt ≤ 360) :
    ∀ (d i fu : Nat) (h : Hp), i + d + 1 = cnt → d < fu → h.1 c 8 = nI cnt → (∀ j, i ≤ j → j < 360 → h.2.2 (c + 15) j = some (c + 24 + 2 * p j)) →
    ∃ h', f10_land_L17 K n c x2 fu (nI i) h = some h' ∧ h'.1 = (sI h c 8 (nI (cnt - 1))).1 ∧ h'.2.1 = h.2.1 ∧ ∀ a j, h'.2.2 a j = if a = c + 15 then (if j < i then h.2.2 a j else if j < cnt - 1 then some (c + 24 + 2 * p (j + 1)) else if j = cnt - 1 then some x2 else h.2.2 a j) else h.2.2 a j := by
  intro d
  induction d with
  | zero =>
    intro i fu h hi hf h6 hr
    obtain ⟨fu, rfl⟩ : ∃ g, fu = g + 1 := ⟨fu - 1, by omega⟩
    have e1 : nI cnt ≤ nI (i + 1) := nI_le (by omega) (by omega)
    have e2 : nI cnt - 1 = nI (cnt - 1) := x_sub1 (by omega)
    have e3 : inb (nI (cnt - 1)) 360 = true := x_in (by omega) (by omega)
    have e4 : (nI (cnt - 1)).toNatClampNeg = cnt - 1 := x_cl (by omega)
    have this : f10_land_L17 K n c x2 (fu + 1) (nI i) h = some (sR (sI h c 8 (nI (cnt - 1))) (c + 15) (cnt - 1) (some x2)) := by
      simp only [f10_land_L17, h6, nI_1, if_pos e1, x_lt, e2, rI_e, e3, x_gd, e4]
    refine ⟨_, this, rfl, rfl, fun a j => ?_⟩
    simp only [sR, sI]
    repeat' split
    all_goals first | rfl | (exfalso; omega)
  | succ d ih =>
    intro i fu h hi hf h6 hr
    obtain ⟨fu, rfl⟩ : ∃ g, fu = g + 1 := ⟨fu - 1, by omega⟩
    have e1 : ¬ nI cnt ≤ nI (i + 1) := nI_ge (by omega) (by omega)
    have e2 : inb (nI (i + 1)) 360 = true := x_in (by omega) (by omega)
    have e3 : inb (nI i) 360 = true := x_in (by omega) (by omega)
    have e4 : (nI (i + 1)).toNatClampNeg = i + 1 := x_cl (by omega)
    have e5 : (nI i).toNatClampNeg = i := x_cl (by omega)
    have e6 := hr (i + 1) (by omega) (by omega)
    have this : f10_land_L17 K n c x2 (fu + 1) (nI i) h = f10_land_L17 K n c x2 fu (nI (i + 1)) (sR h (c + 15) i (some (c + 24 + 2 * p (i + 1)))) := by
      simp only [f10_land_L17, h6, nI_1, if_neg e1, e2, e3, e4, e5, e6, x_gd, x_lt, x_ob (hK (p (i + 1)) (hp _ (by omega)))]
    obtain ⟨h', q1, q2, q3, q4⟩ := ih (i + 1) fu (sR h (c + 15) i (some (c + 24 + 2 * p (i + 1)))) (by omega) (by omega) h6 (fun j hj hj2 => by rw [rR_n (by omega)]; exact hr j (by omega) hj2)
    refine ⟨h', this.trans q1, q2, q3, fun a j => ?_⟩
    rw [q4 a j]
    simp only [sR]
    repeat' split
    all_goals first | rfl | (exfalso; omega) | (simp_all; done) | (congr 2; congr 1; congr 1; omega)
