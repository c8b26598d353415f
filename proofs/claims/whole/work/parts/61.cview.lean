/-! the class's Course at c over such a run -/
def Ag2 {α β : Type} (ag : α → β → Prop) : List α → List β → Prop
  | [], [] => True
  | a :: l, b :: r => ag a b ∧ Ag2 ag l r
  | _, _ => False
section Ag
variable {α β : Type} {ag : α → β → Prop}
theorem Ag2.len : ∀ {l : List α} {r : List β}, Ag2 ag l r → l.length = r.length
  | [], [], _ => rfl
  | _ :: _, _ :: _, h => congrArg (· + 1) (Ag2.len h.2)
  | [], _ :: _, h => h.elim
  | _ :: _, [], h => h.elim
theorem Ag2.app : ∀ {l l' : List α} {r r' : List β}, Ag2 ag l r → Ag2 ag l' r' → Ag2 ag (l ++ l') (r ++ r')
  | [], _, [], _, _, h' => h'
  | _ :: _, _, _ :: _, _, h, h' => ⟨h.1, Ag2.app h.2 h'⟩
  | [], _, _ :: _, _, h, _ => h.elim
  | _ :: _, _, [], _, h, _ => h.elim
theorem Ag2.mid : ∀ {l : List α} {u w : List β} {b : β}, Ag2 ag l (u ++ b :: w) → ∃ u' a w', l = u' ++ a :: w' ∧ Ag2 ag u' u ∧ ag a b ∧ Ag2 ag w' w
  | [], [], _, _, h => h.elim
  | [], _ :: _, _, _, h => h.elim
  | a :: l, [], _, _, h => ⟨[], a, l, rfl, trivial, h.1, h.2⟩
  | a :: l, c :: u, w, b, h => by
    obtain ⟨u', a', w', e, h1, h2, h3⟩ := Ag2.mid (u := u) (w := w) (b := b) h.2
    exact ⟨a :: u', a', w', by rw [e]; rfl, ⟨h.1, h1⟩, h2, h3⟩
theorem Ag2.one {a : α} {b : β} (h : ag a b) : Ag2 ag [a] [b] := ⟨h, trivial⟩
end Ag
/-- a row of the class is this entry, this message, says this -/
def agE (a e : En) : Prop := (∀ k, k < 11 → k ≠ 4 → k ≠ 5 → a.1 k = e.1 k) ∧ a.2 4 = e.2 4 ∧ a.2 5 = e.2 5
def agP (a : Nat → Int32) (p : Ms) : Prop := a 0 = p 0 ∧ a 4 = p 4 ∧ (p 0 = 0 → a 5 = p 5 ∧ a 6 = p 6) ∧ (p 0 = 1 → a 7 = p 7 ∧ a 8 = p 8 ∧ a 9 = p 9 ∧ a 10 = p 10) ∧ (p 0 = 2 → a 5 = p 5 ∧ a 11 = p 7 ∧ a 12 = p 8 ∧ a 13 = p 9)
def agM (a : En) (p : Ms) : Prop := agP a.1 p ∧ a.1 1 = p 1 ∧ a.1 2 = p 2 ∧ a.1 3 = p 3
def KC (K : Ly) (c : Nat) : Prop := (∀ j, j < 360 → K (c + 23 + 2 * j) = some (.inl 6)) ∧ (∀ j, j < 360 → K (c + 24 + 2 * j) = some (.inl 7)) ∧ (∀ j, j < 6 → K (c + 743 + 4 * j) = some (.inl 8)) ∧ (∀ j, j < 60 → K (c + 767 + j) = some (.inl 9))
def cvE (c : Nat) (h : Hp) (L : List En) : Prop := ∃ p Le, vP 14 23 6 c h p Le ∧ Ag2 agE Le L
def cvF (c : Nat) (h : Hp) (F : List Ms) : Prop := ∃ p Le, vP 15 24 8 c h p Le ∧ Ag2 agM Le F
def cvM (c : Nat) (h : Hp) (M : Nat → Int32) : Prop := ∀ i, i < 36 → h.1 (c + 18) i = M i
def cvD (c : Nat) (h : Hp) (D : Nat → Int64) : Prop := ∀ i, i < 6 → h.2.1 (c + 19) i = D i
def cvS (c : Nat) (h : Hp) (S : Nat → List So) : Prop := ∀ i, i < 6 → h.2.2 (c + 20) i = some (c + 743 + 4 * i) ∧ vS (c + 743 + 4 * i) h (S i)
def cvB (c : Nat) (h : Hp) (B : Nat → Nat → Int32) : Prop := ∀ k, k < 60 → h.2.2 (c + 21) k = some (c + 767 + k) ∧ ∀ i, i < 8 → h.1 (c + 767 + k) i = B k i
def cvT (c : Nat) (h : Hp) (T : Nat → Int32) : Prop := ∀ i, i < 6 → h.1 (c + 22) i = T i
/-- the net that the Course is at, before it in the heap -/
def cvN (K : Ly) (c : Nat) (h : Hp) (o : Nat) (N : Nat → Nat) (aw : Int32) : Prop := cN K c h o N aw ∧ o + 13 ≤ c
def vC (K : Ly) (c : Nat) (h : Hp) (o : Nat) (N : Nat → Nat) (aw : Int32) (st : St) : Prop :=
  cvN K c h o N aw ∧ h.1 c 2 = nI (s_n st) ∧ h.1 c 3 = s_d st ∧ cvE c h (s_L st) ∧ cvF c h (s_F st) ∧ cvM c h (s_M st) ∧ cvD c h (s_D st) ∧ cvS c h (s_S st) ∧ cvB c h (s_B st) ∧ cvT c h (s_T st)
section CKept
variable {R : List Nat} {K : Ly} {c o : Nat} {h h' : Hp} {N : Nat → Nat} {aw : Int32}
theorem cvN.kp (v : cvN K c h o N aw) (q : Ch R c h h') (h0 : ¬ 0 ∈ R) (h10 : ¬ 10 ∈ R) : cvN K c h' o N aw := by
  obtain ⟨⟨v1, v2, v3, v4⟩, v5⟩ := v
  refine ⟨⟨?_, v2, v3.kp (fun a k h1 h2 => (q a k (by rw [rg_o (by omega)]; exact h10)).1), ?_⟩, v5⟩
  · rw [(q c 0 (by rw [rg_c0]; exact h0)).2.2]; exact v1
  · rw [(q c 1 (by rw [rg_c1]; exact h0)).1]; exact v4
theorem cvE.kp {L : List En} (v : cvE c h L) (q : Ch R c h h') (h1 : ¬ 1 ∈ R) : cvE c h' L := by
  obtain ⟨p, Le, v1, v2⟩ := v
  refine ⟨p, Le, v1.kp ((q c 6 (by rw [rg_c6]; exact h1)).1) (fun i hi => (q (c + 14) i (by rw [rg_14]; exact h1)).2.2) (fun i hi => q.row (fun k => ?_)), v2⟩
  have h3 := v1.2.2.1
  rw [rg_e (v1.1 i (by omega)).1]; exact h1
theorem cvF.kp {F : List Ms} (v : cvF c h F) (q : Ch R c h h') (h1 : ¬ 2 ∈ R) : cvF c h' F := by
  obtain ⟨p, Le, v1, v2⟩ := v
  refine ⟨p, Le, v1.kp ((q c 8 (by rw [rg_c8]; exact h1)).1) (fun i hi => (q (c + 15) i (by rw [rg_15]; exact h1)).2.2) (fun i hi => q.row (fun k => ?_)), v2⟩
  have h3 := v1.2.2.1
  rw [rg_m (v1.1 i (by omega)).1]; exact h1
theorem cvM.kp {M : Nat → Int32} (v : cvM c h M) (q : Ch R c h h') (h1 : ¬ 5 ∈ R) : cvM c h' M := fun i hi => by
  rw [(q (c + 18) i (by rw [rg_18]; exact h1)).1]; exact v i hi
theorem cvD.kp {D : Nat → Int64} (v : cvD c h D) (q : Ch R c h h') (h1 : ¬ 6 ∈ R) : cvD c h' D := fun i hi => by
  rw [(q (c + 19) i (by rw [rg_19]; exact h1)).2.1]; exact v i hi
theorem vS.kp {s : Nat} {l : List So} (v : vS s h l) (e : ∀ a k, s ≤ a → a < s + 4 → h'.1 a k = h.1 a k) : vS s h' l := ⟨v.1, by rw [e _ _ (by omega) (by omega)]; exact v.2.1, fun i hi => by rw [e _ _ (by omega) (by omega), e _ _ (by omega) (by omega), e _ _ (by omega) (by omega)]; exact v.2.2 i hi⟩
theorem cvS.kp {S : Nat → List So} (v : cvS c h S) (q : Ch R c h h') (h1 : ¬ 7 ∈ R) : cvS c h' S := fun i hi => by
  refine ⟨?_, (v i hi).2.kp (fun a k h2 h3 => (q a k (by rw [rg_s (by omega) (by omega)]; exact h1)).1)⟩
  rw [(q (c + 20) i (by rw [rg_20]; exact h1)).2.2]; exact (v i hi).1
theorem cvB.kp {B : Nat → Nat → Int32} (v : cvB c h B) (q : Ch R c h h') (h1 : ¬ 8 ∈ R) : cvB c h' B := fun k hk => by
  refine ⟨?_, fun i hi => ?_⟩
  · rw [(q (c + 21) k (by rw [rg_21]; exact h1)).2.2]; exact (v k hk).1
  · rw [(q (c + 767 + k) i (by rw [rg_f (by omega) (by omega)]; exact h1)).1]; exact (v k hk).2 i hi
theorem cvT.kp {T : Nat → Int32} (v : cvT c h T) (q : Ch R c h h') (h1 : ¬ 9 ∈ R) : cvT c h' T := fun i hi => by
  rw [(q (c + 22) i (by rw [rg_22]; exact h1)).1]; exact v i hi
theorem now_kp {x : Int32} (v : h.1 c 2 = x) (q : Ch R c h h') (h1 : ¬ 11 ∈ R) : h'.1 c 2 = x := by
  rw [(q c 2 (by rw [rg_c2]; exact h1)).1]; exact v
theorem dn_kp {x : Int32} (v : h.1 c 3 = x) (q : Ch R c h h') (h1 : ¬ 12 ∈ R) : h'.1 c 3 = x := by
  rw [(q c 3 (by rw [rg_c3]; exact h1)).1]; exact v
/-- what is said -/
def cvQ (c : Nat) (h : Hp) (p : Ms) : Prop := agP (h.1 (c + 17)) p
theorem cvQ.kp {p : Ms} (v : cvQ c h p) (q : Ch R c h h') (h1 : ¬ 4 ∈ R) : cvQ c h' p := by
  unfold cvQ
  rw [show h'.1 (c + 17) = h.1 (c + 17) from funext fun k => (q (c + 17) k (by rw [rg_17]; exact h1)).1]; exact v
/-- what came -/
def cvG (c : Nat) (h : Hp) (p : Ms) : Prop := agM (rwo h (c + 16)) p
theorem cvG.kp {p : Ms} (v : cvG c h p) (q : Ch R c h h') (h1 : ¬ 3 ∈ R) : cvG c h' p := by
  unfold cvG
  rw [q.row (fun k => by rw [rg_16]; exact h1)]; exact v
end CKept
/-! what the class says: nacks, data out of stores or of servers -/
section CSay
variable {K : Ly} {n c o : Nat} {h : Hp} {N : Nat → Nat} {aw : Int32}
theorem agP_of {a : Nat → Int32} {p : Ms} (h0 : a 0 = p 0) (h4 : a 4 = p 4) (h1 : p 0 = 0 → a 5 = p 5 ∧ a 6 = p 6) (h2 : p 0 = 1 → a 7 = p 7 ∧ a 8 = p 8 ∧ a 9 = p 9 ∧ a 10 = p 10) (h3 : p 0 = 2 → a 5 = p 5 ∧ a 11 = p 7 ∧ a 12 = p 8 ∧ a 13 = p 9) : agP a p := ⟨h0, h4, h1, h2, h3⟩
theorem csayN {nm ws root : Int32} {nd : Nat} : ∃ h', f10_sayNack K n c nm ws root (nI nd) h = some h' ∧ cvQ c h' (plN nm ws root nd) ∧ Ch [4] c h h' := by
  refine ⟨_, rfl, ?_, ?_⟩
  · refine agP_of ?_ ?_ (fun hh => absurd hh (by decide : ¬ (2 : Int32) = 0)) (fun hh => absurd hh (by decide : ¬ (2 : Int32) = 1)) (fun _ => ⟨?_, ?_, ?_, ?_⟩)
    all_goals (simp (disch := omega) only [rI_n, rI_e]; rfl)
  · refine Ch.I 4 rg_17 (by simp) (Ch.I 4 rg_17 (by simp) (Ch.I 4 rg_17 (by simp) (Ch.I 4 rg_17 (by simp) (Ch.I 4 rg_17 (by simp) (Ch.I 4 rg_17 (by simp) Ch.rf)))))
theorem csayV {nm un : Int32} {nd : Nat} : ∃ h', f10_sayServed K n c nm un (nI nd) h = some h' ∧ cvQ c h' (plD nm un (nI nd) nd 0) ∧ Ch [4] c h h' := by
  refine ⟨_, rfl, ?_, ?_⟩
  · refine agP_of ?_ ?_ (fun hh => absurd hh (by decide : ¬ (1 : Int32) = 0)) (fun _ => ⟨?_, ?_, ?_, ?_⟩) (fun hh => absurd hh (by decide : ¬ (1 : Int32) = 2))
    all_goals (simp (disch := omega) only [rI_n, rI_e]; rfl)
  · refine Ch.I 4 rg_17 (by simp) (Ch.I 4 rg_17 (by simp) (Ch.I 4 rg_17 (by simp) (Ch.I 4 rg_17 (by simp) (Ch.I 4 rg_17 (by simp) (Ch.I 4 rg_17 (by simp) Ch.rf)))))
theorem csayS {s nd i : Nat} {t : So} (hs : c + 743 ≤ s) (hi : i < 4) (h1 : h.1 (s + 1) i = t.1) (h2 : h.1 (s + 2) i = t.2.1) (h3 : h.1 (s + 3) i = t.2.2) : ∃ h', f10_sayStored K n c s (nI i) (nI nd) h = some h' ∧ cvQ c h' (plD t.1 t.2.1 t.2.2 nd 1) ∧ Ch [4] c h h' := by
  have e2 : inb (nI i) 4 = true := x_in (by omega) (by omega)
  have e3 : (nI i).toNatClampNeg = i := x_cl (by omega)
  refine ⟨sI (sI (sI (sI (sI (sI h (c + 17) 0 1) (c + 17) 4 t.1) (c + 17) 7 t.2.1) (c + 17) 8 t.2.2) (c + 17) 9 (nI nd)) (c + 17) 10 1, by simp only [f10_sayStored, e2, e3, x_gd, x_lt]; simp (disch := omega) only [rI_n, h1, h2, h3], ?_, ?_⟩
  · refine agP_of ?_ ?_ (fun hh => absurd hh (by decide : ¬ (1 : Int32) = 0)) (fun _ => ⟨?_, ?_, ?_, ?_⟩) (fun hh => absurd hh (by decide : ¬ (1 : Int32) = 2))
    all_goals (simp (disch := omega) only [rI_n, rI_e, h1, h2, h3]; rfl)
  · refine Ch.I 4 rg_17 (by simp) (Ch.I 4 rg_17 (by simp) (Ch.I 4 rg_17 (by simp) (Ch.I 4 rg_17 (by simp) (Ch.I 4 rg_17 (by simp) (Ch.I 4 rg_17 (by simp) Ch.rf)))))
/-! a message is sent, an ask is settled -/
theorem csettle {k : Nat} {p : Ms} {st : St} (kc : KC K c) (hk : k < 60) (hp : p 0 = 1 ∨ p 0 = 2) (v : vC K c h o N aw st) (w : cvQ c h p) : ∃ h', f10_settle K n c (nI k) h = some h' ∧ vC K c h' o N aw (settle st k p) ∧ Ch [8] c h h' := by
  obtain ⟨v1, v2, v3, v4, v5, v6, v7, v8, v9, v10⟩ := v
  have e2 : inb (nI k) 60 = true := x_in (by omega) (by omega)
  have e3 : (nI k).toNatClampNeg = k := x_cl (by omega)
  obtain ⟨r1, r2⟩ := v9 k hk
  obtain ⟨w0, w4, -, w1, w2⟩ := w
  have ch : ∀ i x (h1 : Hp), Ch [8] c h h1 → Ch [8] c h (sI h1 (c + 767 + k) i x) := fun i x h1 q => Ch.I 8 (rg_f (by omega) (by omega)) (by simp) q
  have fin : ∀ h', Ch [8] c h h' → (∀ j, j < 60 → j ≠ k → ∀ i, h'.1 (c + 767 + j) i = h.1 (c + 767 + j) i) → (∀ i, i < 8 → h'.1 (c + 767 + k) i = fSet (s_B st k) (s_n st) p i) → h'.2.2 = h.2.2 → vC K c h' o N aw (settle st k p) := by
    intro h' q q1 q2 q3
    refine ⟨v1.kp q (by simp) (by simp), now_kp v2 q (by simp), dn_kp v3 q (by simp), v4.kp q (by simp), v5.kp q (by simp), v6.kp q (by simp), v7.kp q (by simp), v8.kp q (by simp), fun j hj => ⟨by rw [q3]; exact (v9 j hj).1, fun i hi => ?_⟩, v10.kp q (by simp)⟩
    by_cases hjk : j = k
    · subst hjk; rw [q2 i hi]; show _ = ug (s_B st) j _ j i; rw [ug_e]
    · rw [q1 j hj hjk i]; show _ = ug (s_B st) k _ j i; rw [ug_n hjk]; exact (v9 j hj).2 i hi
  rcases hp with hp | hp
  · obtain ⟨w7, w8, w9, w10⟩ := w1 hp
    refine ⟨sI (sI (sI (sI h (c + 767 + k) 2 (nI (s_n st))) (c + 767 + k) 0 1) (c + 767 + k) 3 (p 9)) (c + 767 + k) 4 (p 10), ?_, ?_, ?_⟩
    · have z1 : (sI h (c + 767 + k) 2 (nI (s_n st))).1 (c + 17) 0 = 1 := by rw [rI_n (by omega), w0, hp]
      simp only [f10_settle, e2, e3, x_gd, r1, x_ob (kc.2.2.2 k hk), x_lt, v2, z1, if_true]
      simp (disch := omega) only [rI_n, w9, w10]
    · refine fin _ (ch _ _ _ (ch _ _ _ (ch _ _ _ (ch _ _ _ Ch.rf)))) (fun j hj hjk i => ?_) (fun i hi => ?_) rfl
      · simp (disch := omega) only [rI_n]
      · have r3 := r2 i hi
        unfold fSet
        rw [if_pos hp]
        by_cases i0 : i = 0
        · subst i0; simp (disch := omega) only [rI_n, rI_e]; rfl
        by_cases i2 : i = 2
        · subst i2; simp (disch := omega) only [rI_n, rI_e]; rfl
        by_cases i3 : i = 3
        · subst i3; simp (disch := omega) only [rI_n, rI_e]; rfl
        by_cases i4 : i = 4
        · subst i4; simp (disch := omega) only [rI_n, rI_e]; rfl
        simp (disch := omega) only [rI_n, if_neg i0, if_neg i2, if_neg i3, if_neg i4]; exact r3
    · exact ch _ _ _ (ch _ _ _ (ch _ _ _ (ch _ _ _ Ch.rf)))
  · obtain ⟨w5, w11, w12, w13⟩ := w2 hp
    have hp1 : ¬ p 0 = 1 := by rw [hp]; decide
    refine ⟨sI (sI (sI (sI (sI h (c + 767 + k) 2 (nI (s_n st))) (c + 767 + k) 0 2) (c + 767 + k) 5 (p 7)) (c + 767 + k) 6 (p 8)) (c + 767 + k) 7 (p 9), ?_, ?_, ?_⟩
    · have z1 : ¬ (sI h (c + 767 + k) 2 (nI (s_n st))).1 (c + 17) 0 = 1 := by rw [rI_n (by omega), w0]; exact hp1
      simp only [f10_settle, e2, e3, x_gd, r1, x_ob (kc.2.2.2 k hk), x_lt, v2, if_neg z1]
      simp (disch := omega) only [rI_n, w11, w12, w13]
    · refine fin _ (ch _ _ _ (ch _ _ _ (ch _ _ _ (ch _ _ _ (ch _ _ _ Ch.rf))))) (fun j hj hjk i => ?_) (fun i hi => ?_) rfl
      · simp (disch := omega) only [rI_n]
      · have r3 := r2 i hi
        unfold fSet
        rw [if_neg hp1]
        by_cases i0 : i = 0
        · subst i0; simp (disch := omega) only [rI_n, rI_e]; rfl
        by_cases i2 : i = 2
        · subst i2; simp (disch := omega) only [rI_n, rI_e]; rfl
        by_cases i5 : i = 5
        · subst i5; simp (disch := omega) only [rI_n, rI_e]; rfl
        by_cases i6 : i = 6
        · subst i6; simp (disch := omega) only [rI_n, rI_e]; rfl
        by_cases i7 : i = 7
        · subst i7; simp (disch := omega) only [rI_n, rI_e]; rfl
        simp (disch := omega) only [rI_n, if_neg i0, if_neg i2, if_neg i5, if_neg i6, if_neg i7]; exact r3
    · exact ch _ _ _ (ch _ _ _ (ch _ _ _ (ch _ _ _ (ch _ _ _ Ch.rf))))
end CSay
