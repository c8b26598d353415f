/-! the reference at m over such a run -/
def rgM (m a k : Nat) : Nat := if a = m then 100 + k else if a < m then 99 else a - m
theorem rm_a {m j k : Nat} (hj : 0 < j) : rgM m (m + j) k = j := by unfold rgM; rw [if_neg (by omega), if_neg (by omega)]; omega
theorem rm_f {m k : Nat} : rgM m m k = 100 + k := by unfold rgM; rw [if_pos rfl]
def ChM (R : List Nat) (m : Nat) (h h' : Hp) : Prop := ∀ a k, ¬ rgM m a k ∈ R → h'.1 a k = h.1 a k ∧ h'.2.1 a k = h.2.1 a k ∧ h'.2.2 a k = h.2.2 a k
section MCh
variable {R R' : List Nat} {m : Nat} {h h1 h2 : Hp}
theorem ChM.rf : ChM R m h h := fun _ _ _ => ⟨rfl, rfl, rfl⟩
theorem ChM.tr (q1 : ChM R m h h1) (q2 : ChM R m h1 h2) : ChM R m h h2 := fun a k hn =>
  have u := q1 a k hn
  have w := q2 a k hn
  ⟨w.1.trans u.1, w.2.1.trans u.2.1, w.2.2.trans u.2.2⟩
theorem ChM.up (q1 : ChM R m h h1) (hs : ∀ x ∈ R, x ∈ R') : ChM R' m h h1 := fun a k hn => q1 a k (fun hh => hn (hs _ hh))
theorem ChM.I {a k : Nat} {x : Int32} (r : Nat) (hr : rgM m a k = r) (hm : r ∈ R) (q : ChM R m h h1) : ChM R m h (sI h1 a k x) := fun b j hb => by
  have u := q b j hb
  refine ⟨?_, u.2.1, u.2.2⟩
  by_cases hbj : b = a ∧ j = k
  · obtain ⟨rfl, rfl⟩ := hbj
    exact absurd (hr ▸ hm) hb
  · rw [rI_n (by omega)]; exact u.1
theorem ChM.A {a k : Nat} {x : Int32} (hj : 0 < a) (hm : a ∈ R) (q : ChM R m h h1) : ChM R m h (sI h1 (m + a) k x) := ChM.I a (rm_a hj) hm q
theorem ChM.F {k : Nat} {x : Int32} (hm : 100 + k ∈ R) (q : ChM R m h h1) : ChM R m h (sI h1 m k x) := ChM.I (100 + k) rm_f hm q
theorem ChM.L {a k : Nat} {x : Int64} (hj : 0 < a) (hm : a ∈ R) (q : ChM R m h h1) : ChM R m h (sL h1 (m + a) k x) := fun b j hb => by
  have u := q b j hb
  refine ⟨u.1, ?_, u.2.2⟩
  by_cases hbj : b = m + a ∧ j = k
  · obtain ⟨rfl, rfl⟩ := hbj
    exact absurd ((rm_a hj).symm ▸ hm) hb
  · rw [rL_n (by omega)]; exact u.2.1
theorem ChM.a {j : Nat} (q : ChM R m h h1) (hj : 0 < j) (hm : ¬ j ∈ R) (k : Nat) : h1.1 (m + j) k = h.1 (m + j) k := (q (m + j) k (by rw [rm_a hj]; exact hm)).1
theorem ChM.l {j : Nat} (q : ChM R m h h1) (hj : 0 < j) (hm : ¬ j ∈ R) (k : Nat) : h1.2.1 (m + j) k = h.2.1 (m + j) k := (q (m + j) k (by rw [rm_a hj]; exact hm)).2.1
theorem ChM.f {k : Nat} (q : ChM R m h h1) (hm : ¬ 100 + k ∈ R) : h1.1 m k = h.1 m k := (q m k (by rw [rm_f]; exact hm)).1
end MCh
def dj (l R : List Nat) : Bool := l.all (fun r => !(R.contains r))
theorem dj_n {l R : List Nat} (h : dj l R = true) {r : Nat} (hr : r ∈ l) : ¬ r ∈ R := by
  have := List.all_eq_true.mp h r hr
  simpa using this
/-- an entry's place in the reference's rows; a way -/
def agR (h : Hp) (m q : Nat) (e : En) : Prop := h.1 (m + 19) q = e.1 1 ∧ h.1 (m + 20) q = e.1 2 ∧ h.1 (m + 21) q = e.1 3 ∧ h.2.1 (m + 22) q = e.2 4 ∧ h.2.1 (m + 23) q = e.2 5 ∧ h.1 (m + 24) q = e.1 6 ∧ h.1 (m + 25) q = e.1 7 ∧ h.1 (m + 26) q = e.1 8 ∧ h.1 (m + 27) q = e.1 9 ∧ h.1 (m + 28) q = e.1 10
def agW (h : Hp) (m i : Nat) (p : Ms) : Prop := h.1 (m + 29) i = p 0 ∧ h.1 (m + 30) i = p 1 ∧ h.1 (m + 31) i = p 2 ∧ h.1 (m + 32) i = p 4 ∧ h.1 (m + 35) i = p 3 ∧ (p 0 = 0 → h.1 (m + 33) i = p 5 ∧ h.1 (m + 34) i = p 6) ∧ (p 0 = 1 → h.1 (m + 36) i = p 7 ∧ h.1 (m + 37) i = p 8 ∧ h.1 (m + 38) i = p 9 ∧ h.1 (m + 39) i = p 10) ∧ (p 0 = 2 → h.1 (m + 33) i = p 5 ∧ h.1 (m + 36) i = p 7 ∧ h.1 (m + 37) i = p 8 ∧ h.1 (m + 38) i = p 9)
def atN (nd : Nat) (e : En) : Bool := decide (e.1 0 = nI nd)
def mE1 (m : Nat) (h : Hp) (nd : Nat) (l : List En) : Prop := h.1 (m + 18) nd = nI l.length ∧ l.length ≤ 63 ∧ ∀ i e, l[i]? = some e → agR h m (64 * nd + i) e
def mvE (m : Nat) (h : Hp) (L : List En) : Prop := ∀ nd, nd < 6 → mE1 m h nd (L.filter (atN nd))
def mvW (m : Nat) (h : Hp) (W : List Ms) (nF : Nat) : Prop := h.1 m 45 = nI W.length ∧ W.length ≤ nF + 3000 ∧ ∀ i p, W[i]? = some p → agW h m i p
def mvM (m : Nat) (h : Hp) (M : Nat → Int32) : Prop := ∀ i, i < 36 → h.1 (m + 13) i = M i
def mvD (m : Nat) (h : Hp) (D : Nat → Int64) : Prop := ∀ i, i < 6 → h.2.1 (m + 12) i = D i
def mS1 (m : Nat) (h : Hp) (nd : Nat) (l : List So) : Prop := h.1 (m + 14) nd = nI l.length ∧ l.length ≤ 4 ∧ ∀ i t, l[i]? = some t → h.1 (m + 15) (6 * nd + i) = t.1 ∧ h.1 (m + 16) (6 * nd + i) = t.2.1 ∧ h.1 (m + 17) (6 * nd + i) = t.2.2
def mvS (m : Nat) (h : Hp) (S : Nat → List So) : Prop := ∀ nd, nd < 6 → mS1 m h nd (S nd)
def mB1 (m : Nat) (h : Hp) (k : Nat) (b : Nat → Int32) : Prop := (b 8 = 1 → h.1 (m + 40) k = b 0 ∧ h.1 (m + 42) k = b 1 ∧ (b 0 = 1 → h.1 (m + 41) k = b 2 ∧ h.1 (m + 43) k = b 3 ∧ h.1 (m + 44) k = b 4) ∧ (b 0 = 2 → h.1 (m + 41) k = b 2 ∧ h.1 (m + 45) k = b 5 ∧ h.1 (m + 46) k = b 6 ∧ h.1 (m + 47) k = b 7) ∧ (b 0 = 3 → h.1 (m + 41) k = b 2)) ∧ (¬ b 8 = 1 → h.1 (m + 40) k = -1)
def mvB (m : Nat) (h : Hp) (B : Nat → Nat → Int32) : Prop := ∀ k, k < 60 → mB1 m h k (B k)
def mvT (m : Nat) (h : Hp) (T : Nat → Int32) : Prop := ∀ i, i < 6 → h.1 m (65 + i) = T i
def vM (m : Nat) (h : Hp) (j : Nat) (N : Nat → Nat) (aw : Int32) (st : St) (W : List Ms) : Prop :=
  mN m h j N aw ∧ h.1 m 27 = nI (s_n st) ∧ h.1 m 26 = s_d st ∧ mvE m h (s_L st) ∧ mvW m h W (s_F st).length ∧ mvM m h (s_M st) ∧ mvD m h (s_D st) ∧ mvS m h (s_S st) ∧ mvB m h (s_B st) ∧ mvT m h (s_T st)
/-- what is ready -/
def mvQ (m : Nat) (h : Hp) (p : Ms) : Prop := (p 0 = 1 → h.1 m 71 = p 7 ∧ h.1 m 72 = p 8 ∧ h.1 m 73 = p 9 ∧ h.1 m 74 = p 10) ∧ (p 0 = 2 → h.1 m 71 = p 7 ∧ h.1 m 72 = p 8 ∧ h.1 m 73 = p 9)
section MKept
variable {R : List Nat} {m j : Nat} {h h' : Hp} {N : Nat → Nat} {aw : Int32}
theorem mN.kp (v : mN m h j N aw) (q : ChM R m h h') (hd : dj [6, 11, 122, 123, 124] R = true) : mN m h' j N aw := by
  obtain ⟨⟨v1, v2, v3, v4, v5⟩, v6⟩ := v
  refine ⟨⟨v1, ?_, ?_, ?_, fun i hi => ?_⟩, fun i hi => ?_⟩
  · rw [q.f (dj_n hd (by simp))]; exact v2
  · rw [q.f (dj_n hd (by simp))]; exact v3
  · rw [q.f (dj_n hd (by simp))]; exact v4
  · rw [q.a (by omega) (dj_n hd (by simp))]; exact v5 i hi
  · rw [q.a (by omega) (dj_n hd (by simp))]; exact v6 i hi
theorem mnow_kp {x : Int32} (v : h.1 m 27 = x) (q : ChM R m h h') (hd : dj [127] R = true) : h'.1 m 27 = x := by
  rw [q.f (dj_n hd (by simp))]; exact v
theorem mdn_kp {x : Int32} (v : h.1 m 26 = x) (q : ChM R m h h') (hd : dj [126] R = true) : h'.1 m 26 = x := by
  rw [q.f (dj_n hd (by simp))]; exact v
theorem agR.kp {x : Nat} {e : En} (v : agR h m x e) (q : ChM R m h h') (hd : dj [19, 20, 21, 22, 23, 24, 25, 26, 27, 28] R = true) : agR h' m x e := by
  obtain ⟨v1, v2, v3, v4, v5, v6, v7, v8, v9, v10⟩ := v
  refine ⟨?_, ?_, ?_, ?_, ?_, ?_, ?_, ?_, ?_, ?_⟩
  · rw [q.a (by omega) (dj_n hd (by simp))]; exact v1
  · rw [q.a (by omega) (dj_n hd (by simp))]; exact v2
  · rw [q.a (by omega) (dj_n hd (by simp))]; exact v3
  · rw [q.l (by omega) (dj_n hd (by simp))]; exact v4
  · rw [q.l (by omega) (dj_n hd (by simp))]; exact v5
  · rw [q.a (by omega) (dj_n hd (by simp))]; exact v6
  · rw [q.a (by omega) (dj_n hd (by simp))]; exact v7
  · rw [q.a (by omega) (dj_n hd (by simp))]; exact v8
  · rw [q.a (by omega) (dj_n hd (by simp))]; exact v9
  · rw [q.a (by omega) (dj_n hd (by simp))]; exact v10
theorem mvE.kp {L : List En} (v : mvE m h L) (q : ChM R m h h') (h18 : dj [18] R = true) (hd : dj [19, 20, 21, 22, 23, 24, 25, 26, 27, 28] R = true) : mvE m h' L := fun nd hn => by
  obtain ⟨v1, v2, v3⟩ := v nd hn
  refine ⟨?_, v2, fun i e he => (v3 i e he).kp q hd⟩
  rw [q.a (by omega) (dj_n h18 (by simp))]; exact v1
theorem agW.kp {i : Nat} {p : Ms} (v : agW h m i p) (q : ChM R m h h') (hd : dj [29, 30, 31, 32, 33, 34, 35, 36, 37, 38, 39] R = true) : agW h' m i p := by
  obtain ⟨v1, v2, v3, v4, v5, v6, v7, v8⟩ := v
  have g : ∀ r, r ∈ [29, 30, 31, 32, 33, 34, 35, 36, 37, 38, 39] → h'.1 (m + r) i = h.1 (m + r) i := fun r hr => q.a (by
    simp only [List.mem_cons, List.not_mem_nil, or_false] at hr; omega) (dj_n hd hr) i
  unfold agW
  rw [g 29 (by simp), g 30 (by simp), g 31 (by simp), g 32 (by simp), g 33 (by simp), g 34 (by simp), g 35 (by simp), g 36 (by simp), g 37 (by simp), g 38 (by simp), g 39 (by simp)]
  exact ⟨v1, v2, v3, v4, v5, v6, v7, v8⟩
theorem mvW.kp {W : List Ms} {nF : Nat} (v : mvW m h W nF) (q : ChM R m h h') (h45 : dj [145] R = true) (hd : dj [29, 30, 31, 32, 33, 34, 35, 36, 37, 38, 39] R = true) : mvW m h' W nF := by
  obtain ⟨v1, v2, v3⟩ := v
  refine ⟨?_, v2, fun i p hp => (v3 i p hp).kp q hd⟩
  rw [q.f (dj_n h45 (by simp))]; exact v1
theorem mvM.kp {M : Nat → Int32} (v : mvM m h M) (q : ChM R m h h') (hd : dj [13] R = true) : mvM m h' M := fun i hi => by
  rw [q.a (by omega) (dj_n hd (by simp))]; exact v i hi
theorem mvD.kp {D : Nat → Int64} (v : mvD m h D) (q : ChM R m h h') (hd : dj [12] R = true) : mvD m h' D := fun i hi => by
  rw [q.l (by omega) (dj_n hd (by simp))]; exact v i hi
theorem mvS.kp {S : Nat → List So} (v : mvS m h S) (q : ChM R m h h') (hd : dj [14, 15, 16, 17] R = true) : mvS m h' S := fun nd hn => by
  obtain ⟨v1, v2, v3⟩ := v nd hn
  refine ⟨?_, v2, fun i t ht => ?_⟩
  · rw [q.a (by omega) (dj_n hd (by simp))]; exact v1
  · rw [q.a (by omega) (dj_n hd (by simp)), q.a (by omega) (dj_n hd (by simp)), q.a (by omega) (dj_n hd (by simp))]; exact v3 i t ht
theorem mB1.kp {k : Nat} {b : Nat → Int32} (v : mB1 m h k b) (g : ∀ r, r ∈ [40, 41, 42, 43, 44, 45, 46, 47] → h'.1 (m + r) k = h.1 (m + r) k) : mB1 m h' k b := by
  unfold mB1
  rw [g 40 (by simp), g 41 (by simp), g 42 (by simp), g 43 (by simp), g 44 (by simp), g 45 (by simp), g 46 (by simp), g 47 (by simp)]
  exact v
theorem mvB.kp {B : Nat → Nat → Int32} (v : mvB m h B) (q : ChM R m h h') (hd : dj [40, 41, 42, 43, 44, 45, 46, 47] R = true) : mvB m h' B := fun k hk =>
  (v k hk).kp (fun r hr => q.a (by simp only [List.mem_cons, List.not_mem_nil, or_false] at hr; omega) (dj_n hd hr) k)
theorem mvT.kp {T : Nat → Int32} (v : mvT m h T) (q : ChM R m h h') (hd : dj [165, 166, 167, 168, 169, 170] R = true) : mvT m h' T := fun i hi => by
  have : 100 + (65 + i) ∈ [165, 166, 167, 168, 169, 170] := by simp only [List.mem_cons, List.not_mem_nil, or_false]; omega
  rw [q.f (dj_n hd this)]; exact v i hi
theorem mvQ.kp {p : Ms} (v : mvQ m h p) (q : ChM R m h h') (hd : dj [171, 172, 173, 174] R = true) : mvQ m h' p := by
  have g : ∀ r, 71 ≤ r → r ≤ 74 → h'.1 m r = h.1 m r := fun r h1 h2 => q.f (dj_n hd (by simp only [List.mem_cons, List.not_mem_nil, or_false]; omega))
  unfold mvQ
  rw [g 71 (by omega) (by omega), g 72 (by omega) (by omega), g 73 (by omega) (by omega), g 74 (by omega) (by omega)]
  exact v
/-- nothing of the run has changed -/
theorem vM.kp {st : St} {W : List Ms} (v : vM m h j N aw st W) (q : ChM R m h h') (hd : dj [6, 11, 12, 13, 14, 15, 16, 17, 18, 19, 20, 21, 22, 23, 24, 25, 26, 27, 28, 29, 30, 31, 32, 33, 34, 35, 36, 37, 38, 39, 40, 41, 42, 43, 44, 45, 46, 47, 122, 123, 124, 126, 127, 145, 165, 166, 167, 168, 169, 170] R = true) : vM m h' j N aw st W := by
  have up : ∀ l : List Nat, (∀ x ∈ l, x ∈ [6, 11, 12, 13, 14, 15, 16, 17, 18, 19, 20, 21, 22, 23, 24, 25, 26, 27, 28, 29, 30, 31, 32, 33, 34, 35, 36, 37, 38, 39, 40, 41, 42, 43, 44, 45, 46, 47, 122, 123, 124, 126, 127, 145, 165, 166, 167, 168, 169, 170]) → dj l R = true := fun l hl => List.all_eq_true.mpr (fun r hr => List.all_eq_true.mp hd r (hl r hr))
  obtain ⟨v1, v2, v3, v4, v5, v6, v7, v8, v9, v10⟩ := v
  exact ⟨v1.kp q (up _ (by decide)), mnow_kp v2 q (up _ (by decide)), mdn_kp v3 q (up _ (by decide)), v4.kp q (up _ (by decide)) (up _ (by decide)), v5.kp q (up _ (by decide)) (up _ (by decide)), v6.kp q (up _ (by decide)), v7.kp q (up _ (by decide)), v8.kp q (up _ (by decide)), v9.kp q (up _ (by decide)), v10.kp q (up _ (by decide))⟩
end MKept
