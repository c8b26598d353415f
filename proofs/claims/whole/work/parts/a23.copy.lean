/-! copies: what an image keeps, on both sides -/
section CopyC
variable {K : Ly} {n : Nat} {h : Hp}
theorem c2copy {o a : Nat} (d : a + 13 ≤ o ∨ o + 13 ≤ a) : ∃ h', f2_copy K n o a h = some h' ∧ h'.2 = h.2 ∧ (∀ b k, ¬ (o ≤ b ∧ b < o + 13) → h'.1 b k = h.1 b k) ∧ ∀ N : Nat → Nat, vN a h N → N 2 ≤ 15 → N 3 ≤ 12 → N 4 ≤ 6 → vN o h' N := by
  unfold f2_copy
  simp only [x_lt]
  refine ⟨_, rfl, rfl, fun b k hb => ?_, fun N v b2 b3 b4 => ⟨fun k hk => ?_, fun i hi => ?_, fun l hl => ⟨?_, ?_, ?_⟩, fun i hi => ?_, fun k hk => ⟨?_, ?_, ?_, ?_⟩, fun k hk => ⟨?_, ?_, ?_⟩⟩⟩
  · repeat (first | rw [rC_n (by omega)] | rw [rI_n (by omega)])
  · have w := v.1 k hk
    rcases (show k = 0 ∨ k = 1 ∨ k = 2 ∨ k = 3 ∨ k = 4 by omega) with rfl | rfl | rfl | rfl | rfl <;> (repeat (first | rw [rC_n (by omega)] | rw [rI_n (by omega)])) <;> rw [rI_e] <;> (repeat (first | rw [rC_n (by omega)] | rw [rI_n (by omega)])) <;> exact w
  · repeat (first | rw [rC_n (by omega)] | rw [rI_n (by omega)])
    rw [rC_e (by omega)]
    repeat (first | rw [rC_n (by omega)] | rw [rI_n (by omega)])
    exact v.2.1 i hi
  · repeat (first | rw [rC_n (by omega)] | rw [rI_n (by omega)])
    rw [rC_e (by omega)]
    repeat (first | rw [rC_n (by omega)] | rw [rI_n (by omega)])
    exact (v.2.2.1 l hl).1
  · repeat (first | rw [rC_n (by omega)] | rw [rI_n (by omega)])
    rw [rC_e (by omega)]
    repeat (first | rw [rC_n (by omega)] | rw [rI_n (by omega)])
    exact (v.2.2.1 l hl).2.1
  · repeat (first | rw [rC_n (by omega)] | rw [rI_n (by omega)])
    rw [rC_e (by omega)]
    repeat (first | rw [rC_n (by omega)] | rw [rI_n (by omega)])
    exact (v.2.2.1 l hl).2.2
  · repeat (first | rw [rC_n (by omega)] | rw [rI_n (by omega)])
    rw [rC_e (by omega)]
    repeat (first | rw [rC_n (by omega)] | rw [rI_n (by omega)])
    exact v.2.2.2.1 i hi
  · repeat (first | rw [rC_n (by omega)] | rw [rI_n (by omega)])
    rw [rC_e (by omega)]
    repeat (first | rw [rC_n (by omega)] | rw [rI_n (by omega)])
    exact (v.2.2.2.2.1 k hk).1
  · repeat (first | rw [rC_n (by omega)] | rw [rI_n (by omega)])
    rw [rC_e (by omega)]
    repeat (first | rw [rC_n (by omega)] | rw [rI_n (by omega)])
    exact (v.2.2.2.2.1 k hk).2.1
  · repeat (first | rw [rC_n (by omega)] | rw [rI_n (by omega)])
    rw [rC_e (by omega)]
    repeat (first | rw [rC_n (by omega)] | rw [rI_n (by omega)])
    exact (v.2.2.2.2.1 k hk).2.2.1
  · repeat (first | rw [rC_n (by omega)] | rw [rI_n (by omega)])
    rw [rC_e (by omega)]
    repeat (first | rw [rC_n (by omega)] | rw [rI_n (by omega)])
    exact (v.2.2.2.2.1 k hk).2.2.2
  · repeat (first | rw [rC_n (by omega)] | rw [rI_n (by omega)])
    rw [rC_e (by omega)]
    repeat (first | rw [rC_n (by omega)] | rw [rI_n (by omega)])
    exact (v.2.2.2.2.2 k hk).1
  · repeat (first | rw [rC_n (by omega)] | rw [rI_n (by omega)])
    rw [rC_e (by omega)]
    repeat (first | rw [rC_n (by omega)] | rw [rI_n (by omega)])
    exact (v.2.2.2.2.2 k hk).2.1
  · rw [rC_e (by omega)]
    repeat (first | rw [rC_n (by omega)] | rw [rI_n (by omega)])
    exact (v.2.2.2.2.2 k hk).2.2
theorem c3copy {o a : Nat} (d : a + 4 ≤ o ∨ o + 4 ≤ a) : ∃ h', f3_copy K n o a h = some h' ∧ h'.2 = h.2 ∧ (∀ b k, ¬ (o ≤ b ∧ b < o + 4) → h'.1 b k = h.1 b k) ∧ ∀ (q : Nat) (R : Nat → Int32), vR a h q R → q ≤ 40 → vR o h' q R := by
  unfold f3_copy
  simp only [x_lt]
  refine ⟨_, rfl, rfl, fun b k hb => ?_, fun q R v hq => ⟨?_, fun k hk => ⟨?_, ?_, ?_⟩⟩⟩
  · repeat (first | rw [rC_n (by omega)] | rw [rI_n (by omega)])
  · repeat (first | rw [rC_n (by omega)] | rw [rI_n (by omega)])
    rw [rI_e]; exact v.1
  · repeat (first | rw [rC_n (by omega)] | rw [rI_n (by omega)])
    rw [rC_e (by omega)]
    repeat (first | rw [rC_n (by omega)] | rw [rI_n (by omega)])
    exact (v.2 k hk).1
  · repeat (first | rw [rC_n (by omega)] | rw [rI_n (by omega)])
    rw [rC_e (by omega)]
    repeat (first | rw [rC_n (by omega)] | rw [rI_n (by omega)])
    exact (v.2 k hk).2.1
  · rw [rC_e (by omega)]
    repeat (first | rw [rC_n (by omega)] | rw [rI_n (by omega)])
    exact (v.2 k hk).2.2
theorem c4copy {o a : Nat} (d : a + 3 ≤ o ∨ o + 3 ≤ a) : ∃ h', f4_copy K n o a h = some h' ∧ h'.2 = h.2 ∧ (∀ b k, ¬ (o ≤ b ∧ b < o + 3) → h'.1 b k = h.1 b k) ∧ ∀ (q : Nat) (L : Nat → Int32), vL a h q L → q ≤ 8 → vL o h' q L := by
  unfold f4_copy
  simp only [x_lt]
  refine ⟨_, rfl, rfl, fun b k hb => ?_, fun q R v hq => ⟨?_, fun k hk => ⟨?_, ?_⟩⟩⟩
  · repeat (first | rw [rC_n (by omega)] | rw [rI_n (by omega)])
  · repeat (first | rw [rC_n (by omega)] | rw [rI_n (by omega)])
    rw [rI_e]; exact v.1
  · repeat (first | rw [rC_n (by omega)] | rw [rI_n (by omega)])
    rw [rC_e (by omega)]
    repeat (first | rw [rC_n (by omega)] | rw [rI_n (by omega)])
    exact (v.2 k hk).1
  · rw [rC_e (by omega)]
    repeat (first | rw [rC_n (by omega)] | rw [rI_n (by omega)])
    exact (v.2 k hk).2
theorem vR.kq {r q : Nat} {R : Nat → Int32} {h' : Hp} (v : vR r h q R) (e : ∀ a k, r ≤ a → a < r + 4 → h'.1 a k = h.1 a k) : vR r h' q R := by
  refine ⟨by rw [e _ _ (by omega) (by omega)]; exact v.1, fun k hk => ?_⟩
  rw [e _ _ (by omega) (by omega), e _ _ (by omega) (by omega), e _ _ (by omega) (by omega)]; exact v.2 k hk
theorem vL.kq {r q : Nat} {R : Nat → Int32} {h' : Hp} (v : vL r h q R) (e : ∀ a k, r ≤ a → a < r + 3 → h'.1 a k = h.1 a k) : vL r h' q R := by
  refine ⟨by rw [e _ _ (by omega) (by omega)]; exact v.1, fun k hk => ?_⟩
  rw [e _ _ (by omega) (by omega), e _ _ (by omega) (by omega)]; exact v.2 k hk
/-- where the parts of a Told lie, in the layout -/
def KT (K : Ly) (t : Nat) : Prop := ∀ i, i < 2 → K (t + 4 + 13 * i) = some (.inl 2) ∧ K (t + 31 + 4 * i) = some (.inl 3) ∧ K (t + 40 + 3 * i) = some (.inl 4)
/-- one turn of the copying of nets, runs and logs -/
theorem c1step {d s i fu : Nat} (ds : s + 46 ≤ d ∨ d + 46 ≤ s) (kd : KT K d) (ks : KT K s) (td : cTr d h) (ts : cTr s h) (hi : i < 2) : ∃ h', f1_copy_L56 K n d s (fu + 1) (nI i) h = f1_copy_L56 K n d s fu (nI (i + 1)) h' ∧ h'.2 = h.2 ∧ (∀ b k, ¬ ((d + 4 + 13 * i ≤ b ∧ b < d + 4 + 13 * i + 13) ∨ (d + 31 + 4 * i ≤ b ∧ b < d + 31 + 4 * i + 4) ∨ (d + 40 + 3 * i ≤ b ∧ b < d + 40 + 3 * i + 3)) → h'.1 b k = h.1 b k) ∧ (∀ N : Nat → Nat, vN (s + 4 + 13 * i) h N → N 2 ≤ 15 → N 3 ≤ 12 → N 4 ≤ 6 → vN (d + 4 + 13 * i) h' N) ∧ (∀ (q : Nat) (R : Nat → Int32), vR (s + 31 + 4 * i) h q R → q ≤ 40 → vR (d + 31 + 4 * i) h' q R) ∧ ∀ (q : Nat) (L : Nat → Int32), vL (s + 40 + 3 * i) h q L → q ≤ 8 → vL (d + 40 + 3 * i) h' q L := by
  obtain ⟨p1, a1, a2, a3, a4⟩ := c2copy (K := K) (n := n) (h := h) (o := d + 4 + 13 * i) (a := s + 4 + 13 * i) (by omega)
  obtain ⟨p2, b1, b2, b3, b4⟩ := c3copy (K := K) (n := n) (h := p1) (o := d + 31 + 4 * i) (a := s + 31 + 4 * i) (by omega)
  obtain ⟨p3, c1, c2, c3, c4⟩ := c4copy (K := K) (n := n) (h := p2) (o := d + 40 + 3 * i) (a := s + 40 + 3 * i) (by omega)
  obtain ⟨u1, u2, u3⟩ := td i hi
  obtain ⟨w1, w2, w3⟩ := ts i hi
  obtain ⟨k1, k2, k3⟩ := kd i hi
  obtain ⟨l1, l2, l3⟩ := ks i hi
  have e1 : ¬ (2 : Int32) ≤ nI i := by rw [l_2]; exact nI_ge hi (by omega)
  have q1 : p1.2.2 = h.2.2 := by rw [a2]
  have q2 : p2.2.2 = h.2.2 := by rw [b2, a2]
  refine ⟨p3, ?_, c2.trans (b2.trans a2), fun b k hb => ?_, fun N v n2 n3 n4 => ?_, fun q R v hq => ?_, fun q L v hq => ?_⟩
  · rw [f1_copy_L56, if_neg e1, x_in (show i < 2 by omega) (by omega), x_gd, x_cl (by omega), u1, x_ob k1, x_gd, w1, x_ob l1, a1, x_bp, x_gd, q1, u2, x_ob k2, x_gd, w2, x_ob l2, b1, x_bp, x_gd, q2, u3, x_ob k3, x_gd, w3, x_ob l3, c1, x_bp, x_lt, nI_1]
  · rw [c3 b k (by omega), b3 b k (by omega), a3 b k (by omega)]
  · exact (a4 N v n2 n3 n4).kp (fun a k h1 h2 => by rw [c3 a k (by omega), b3 a k (by omega)])
  · have v' : vR (s + 31 + 4 * i) p1 q R := v.kq (fun a k h1 h2 => a3 a k (by omega))
    exact (b4 q R v' hq).kq (fun a k h1 h2 => c3 a k (by omega))
  · have v' : vL (s + 40 + 3 * i) p2 q L := v.kq (fun a k h1 h2 => by rw [b3 a k (by omega), a3 a k (by omega)])
    exact c4 q L v' hq
theorem c1copy {d s : Nat} {g : Gh} (hn : 5000 ≤ n) (ds : s + 46 ≤ d ∨ d + 46 ≤ s) (kd : KT K d) (ks : KT K s) (td : cTr d h) (ts : cTr s h) (gk : gOk g) (v : cT s h g) : ∃ h', f1_copy K n d s h = some h' ∧ h'.2 = h.2 ∧ (∀ b k, ¬ (d ≤ b ∧ b < d + 46) → h'.1 b k = h.1 b k) ∧ cT d h' g := by
  obtain ⟨n', rfl⟩ : ∃ n', n = n' + 1 + 1 + 1 := ⟨n - 3, by omega⟩
  have g1 := gk.2.1 0 (by omega)
  have g2 := gk.2.1 1 (by omega)
  have g3 := gk.2.1 2 (by omega)
  have l6 := gk.1.1
  have z : ∃ h0, h0 = sI (sI (sI (cpI (cpI h (s + 1) (d + 1) 600) (s + 2) (d + 2) 3) d 1 (h.1 s 1)) d 2 (h.1 s 2)) d 3 (h.1 s 3) := ⟨_, rfl⟩
  obtain ⟨h0, hz⟩ := z
  have r0 : h0.2 = h.2 := by rw [hz]; rfl
  have f0 : ∀ b k, ¬ (d ≤ b ∧ b < d + 3) → h0.1 b k = h.1 b k := fun b k hb => by
    rw [hz]; repeat (first | rw [rC_n (by omega)] | rw [rI_n (by omega)])
  have t0 : ∀ k, k < 600 → h0.1 (d + 1) k = h.1 (s + 1) k := fun k hk => by
    rw [hz]
    repeat (first | rw [rC_n (by omega)] | rw [rI_n (by omega)])
    rw [rC_e hk]
  have t1 : ∀ k, k < 3 → h0.1 (d + 2) k = h.1 (s + 2) k := fun k hk => by
    rw [hz]
    repeat (first | rw [rC_n (by omega)] | rw [rI_n (by omega)])
    rw [rC_e hk]
    repeat (first | rw [rC_n (by omega)] | rw [rI_n (by omega)])
  have t2 : h0.1 d 1 = h.1 s 1 := by
    rw [hz]
    repeat (first | rw [rC_n (by omega)] | rw [rI_n (by omega)])
    rw [rI_e]
  have t3 : h0.1 d 2 = h.1 s 2 := by
    rw [hz]
    repeat (first | rw [rC_n (by omega)] | rw [rI_n (by omega)])
    rw [rI_e]
  have t4 : h0.1 d 3 = h.1 s 3 := by
    rw [hz, rI_e]
  have st : f1_copy K (n' + 1 + 1 + 1) d s h = f1_copy_L56 K (n' + 1 + 1 + 1) d s (n' + 1 + 1 + 1) (nI 0) h0 := by
    unfold f1_copy
    simp only [x_lt]
    rw [hz]
    have e1 : (cpI (cpI h (s + 1) (d + 1) 600) (s + 2) (d + 2) 3).1 s 1 = h.1 s 1 := by rw [rC_n (by omega), rC_n (by omega)]
    have e2 : (sI (cpI (cpI h (s + 1) (d + 1) 600) (s + 2) (d + 2) 3) d 1 (h.1 s 1)).1 s 2 = h.1 s 2 := by rw [rI_n (by omega), rC_n (by omega), rC_n (by omega)]
    have e3 : (sI (sI (cpI (cpI h (s + 1) (d + 1) 600) (s + 2) (d + 2) 3) d 1 (h.1 s 1)) d 2 (h.1 s 2)).1 s 3 = h.1 s 3 := by rw [rI_n (by omega), rI_n (by omega), rC_n (by omega), rC_n (by omega)]
    rw [e1, e2, e3]; rfl
  have td0 : cTr d h0 := by unfold cTr at td ⊢; rw [r0]; exact td
  have ts0 : cTr s h0 := by unfold cTr at ts ⊢; rw [r0]; exact ts
  obtain ⟨p1, a1, a2, a3, a4, a5, a6⟩ := c1step (K := K) (n := n' + 1 + 1 + 1) (h := h0) (i := 0) (fu := n' + 1 + 1) ds kd ks td0 ts0 (by omega)
  have td1 : cTr d p1 := by unfold cTr at td0 ⊢; rw [a2]; exact td0
  have ts1 : cTr s p1 := by unfold cTr at ts0 ⊢; rw [a2]; exact ts0
  obtain ⟨p2, b1, b2, b3, b4, b5, b6⟩ := c1step (K := K) (n := n' + 1 + 1 + 1) (h := p1) (i := 1) (fu := n' + 1) ds kd ks td1 ts1 (by omega)
  have e9 : (2 : Int32) ≤ nI (1 + 1) := by decide
  refine ⟨p2, ?_, b2.trans (a2.trans r0), fun b k hb => ?_, ?_, fun i hi => ?_, ?_, ?_, fun c hc => ?_, fun i hi => ?_, fun i hi => ?_, fun i hi => ?_⟩
  · rw [st, a1, b1, f1_copy_L56, if_pos e9]
  · rw [b3 b k (by omega), a3 b k (by omega), f0 b k (by omega)]
  · rw [b3 _ _ (by omega), a3 _ _ (by omega), t2]; exact v.1
  · rw [b3 _ _ (by omega), a3 _ _ (by omega), t0 i (by omega)]; exact v.2.1 i hi
  · rw [b3 _ _ (by omega), a3 _ _ (by omega), t3]; exact v.2.2.1
  · rw [b3 _ _ (by omega), a3 _ _ (by omega), t4]; exact v.2.2.2.1
  · rw [b3 _ _ (by omega), a3 _ _ (by omega), t1 c hc]; exact v.2.2.2.2.1 c hc
  · have ok := gk.2.2.1 i hi
    have w := v.2.2.2.2.2.1 i hi
    rcases (show i = 0 ∨ i = 1 by omega) with rfl | rfl
    · exact (a4 _ (w.kp (fun a k h1 h2 => f0 a k (by omega))) ok.2.2.1 ok.2.2.2.1 ok.2.2.2.2.1).kp (fun a k h1 h2 => b3 a k (by omega))
    · exact b4 _ (w.kp (fun a k h1 h2 => by rw [a3 a k (by omega), f0 a k (by omega)])) ok.2.2.1 ok.2.2.2.1 ok.2.2.2.2.1
  · have ok := (gk.2.2.2.1 i hi).1
    have w := v.2.2.2.2.2.2.1 i hi
    rcases (show i = 0 ∨ i = 1 by omega) with rfl | rfl
    · exact (a5 _ _ (w.kq (fun a k h1 h2 => f0 a k (by omega))) ok).kq (fun a k h1 h2 => b3 a k (by omega))
    · exact b5 _ _ (w.kq (fun a k h1 h2 => by rw [a3 a k (by omega), f0 a k (by omega)])) ok
  · have ok := (gk.2.2.2.2 i hi).1
    have w := v.2.2.2.2.2.2.2 i hi
    rcases (show i = 0 ∨ i = 1 by omega) with rfl | rfl
    · exact (a6 _ _ (w.kq (fun a k h1 h2 => f0 a k (by omega))) ok).kq (fun a k h1 h2 => b3 a k (by omega))
    · exact b6 _ _ (w.kq (fun a k h1 h2 => by rw [a3 a k (by omega), f0 a k (by omega)])) ok
end CopyC
