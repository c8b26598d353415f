/-! what the constructors leave: the layout -/
def Fr (n : Nat) (K : Ly) : Prop := ∀ a, n ≤ a → K a = none
def LF (n : Nat) (K : Ly) : Prop := LyOk K ∧ Fr n K
theorem getD_or {α : Type} (l : List α) (i : Nat) (d : α) : l.getD i d ∈ l ∨ l.getD i d = d := by
  by_cases h : i < l.length
  · refine Or.inl ?_
    rw [List.getD_eq_getElem?_getD, List.getElem?_eq_getElem h]
    exact List.getElem_mem h
  · refine Or.inr ?_
    rw [List.getD_eq_getElem?_getD, List.getElem?_eq_none (by omega)]
    rfl
theorem sk_fin {ci k c : Nat} (h : sk ci k = some (.inl c)) : c < 12 := by
  have hall : ∀ r ∈ skl, ∀ o ∈ r, (match o with
      | some (.inl c) => decide (c < 12)
      | _ => true) = true := by decide +kernel
  unfold sk at h
  rcases getD_or skl ci [] with h1 | h1
  · rcases getD_or (skl.getD ci []) k none with h2 | h2
    · have := hall _ h1 _ h2
      rw [h] at this
      exact of_decide_eq_true this
    · rw [h2] at h; cases h
  · rw [h1] at h; cases h
theorem sk_far {ci k : Nat} (hk : 87 ≤ k) : sk ci k = none := by
  have hall : ∀ r ∈ skl, r.length ≤ 87 := by decide +kernel
  unfold sk
  rcases getD_or skl ci [] with h1 | h1
  · have := hall _ h1
    rw [List.getD_eq_getElem?_getD, List.getElem?_eq_none (by omega)]; rfl
  · rw [h1]; rfl
theorem lf_arr {n : Nat} {K : Ly} {tn : Nat × Nat} (h : LF n K) : LF (n + 1) (kS K n (.inr tn)) := by
  refine ⟨fun a ci k c kd h1 h2 h3 => ?_, fun a ha => ?_⟩
  · by_cases ha : a = n
    · rw [ha, kS_eq] at h1; cases h1
    · rw [kS_ne2 ha] at h1
      have h4 := h.1 a ci k c kd h1 h2 h3
      have : a + c ≠ n := fun e => by rw [e, h.2 n (Nat.le_refl _)] at h4; cases h4
      rw [kS_ne2 this]; exact h4
  · rw [kS_ne2 (by omega)]; exact h.2 a (by omega)
theorem lf_raw {n ci : Nat} {K : Ly} (h : LF n K) (hf : ∀ k, fc ci k ≤ 2) : LF (n + 1) (kS K n (.inl ci)) := by
  refine ⟨fun a ci2 k c kd h1 h2 h3 => ?_, fun a ha => ?_⟩
  · by_cases ha : a = n
    · rw [ha, kS_eq] at h1
      have e : ci2 = ci := by cases h1; rfl
      have := hf k
      rw [e] at h2; omega
    · rw [kS_ne2 ha] at h1
      have h4 := h.1 a ci2 k c kd h1 h2 h3
      have : a + c ≠ n := fun e => by rw [e, h.2 n (Nat.le_refl _)] at h4; cases h4
      rw [kS_ne2 this]; exact h4
  · rw [kS_ne2 (by omega)]; exact h.2 a (by omega)
def Sta (ci o : Nat) (K : Ly) : Prop := ∀ (k c : Nat) (kd : Kd), fc ci k = c + 3 → sk ci k = some kd → K (o + c) = some kd
theorem lf_fin {n o ci : Nat} {K : Ly} (h : LF n K) (ho : K o = some (.inl (ci + 12))) (hs : Sta ci o K) : LF n (kS K o (.inl ci)) := by
  have ns : ∀ ci2 k : Nat, sk ci2 k ≠ some (.inl (ci + 12)) := fun ci2 k e => by have := sk_fin e; omega
  refine ⟨fun a ci2 k c kd h1 h2 h3 => ?_, fun a ha => ?_⟩
  · by_cases ha : a = o
    · rw [ha, kS_eq] at h1
      have e : ci2 = ci := by cases h1; rfl
      subst e
      have h4 := hs k c kd h2 h3
      have : o + c ≠ o := fun e => by rw [e, ho] at h4; exact ns ci2 k (h3.trans h4.symm)
      rw [ha, kS_ne2 this]; exact h4
    · rw [kS_ne2 ha] at h1
      have h4 := h.1 a ci2 k c kd h1 h2 h3
      have : a + c ≠ o := fun e => by rw [e, ho] at h4; exact ns ci2 k (h3.trans h4.symm)
      rw [kS_ne2 this]; exact h4
  · have : a ≠ o := fun e => by rw [← e, h.2 a ha] at ho; cases ho
    rw [kS_ne2 this]; exact h.2 a ha
def kdE : Kd → Kd → Bool
  | .inl a, .inl b => a == b
  | .inr (a, b), .inr (c, d) => a == c && b == d
  | _, _ => false
theorem kdE_eq {a b : Kd} (h : kdE a b = true) : a = b := by
  match a, b, h with
  | .inl a, .inl b, h => rw [show a = b from beq_iff_eq.mp h]
  | .inr (a, b), .inr (c, d), h =>
    obtain ⟨h1, h2⟩ := (Bool.and_eq_true _ _ ▸ h : (a == c) = true ∧ (b == d) = true)
    rw [show a = c from beq_iff_eq.mp h1, show b = d from beq_iff_eq.mp h2]
theorem st_of {ci o : Nat} {K : Ly} (l : List (Nat × Kd)) (hl : ((List.range 87).all fun k => match sk ci k with
      | some kd => decide (fc ci k < 3) || l.any (fun q => q.1 == fc ci k - 3 && kdE q.2 kd)
      | none => true) = true) (hm : ∀ q ∈ l, K (o + q.1) = some q.2) : Sta ci o K := by
  intro k c kd h1 h2
  by_cases hk : k < 87
  · have := List.all_eq_true.mp hl k (List.mem_range.mpr hk)
    rw [h2] at this
    have this : (decide (fc ci k < 3) || l.any (fun q => q.1 == fc ci k - 3 && kdE q.2 kd)) = true := this
    rw [decide_eq_false (by omega), Bool.false_or] at this
    obtain ⟨q, hq, hb⟩ := List.any_eq_true.mp this
    rw [Bool.and_eq_true] at hb
    have h3 := beq_iff_eq.mp hb.1
    have h4 := kdE_eq hb.2
    have := hm q hq
    rw [h4, h3, show fc ci k - 3 = c by omega] at this
    exact this
  · rw [sk_far (by omega)] at h2; cases h2
theorem fc_raw (ci : Nat) (h : ((fcl.getD ci []).all fun q => decide (q ≤ 2)) = true) (k : Nat) : fc ci k ≤ 2 := by
  unfold fc
  rcases getD_or (fcl.getD ci []) k 2 with h1 | h1
  · exact of_decide_eq_true (List.all_eq_true.mp h _ h1)
  · rw [h1]; exact Nat.le_refl _

set_option maxHeartbeats 4000000 in
set_option maxRecDepth 100000 in
theorem lf2 {o : Nat} {K : Ly} (h : LF (o + 1) K) (ho : K o = some (.inl 14)) : LF (o + 13) (kI2 K o) := by
  unfold kI2
  refine lf_fin (ci := 2) (n := o + 13) (lf_arr (lf_arr (lf_arr (lf_arr (lf_arr (lf_arr (lf_arr (lf_arr (lf_arr (lf_arr (lf_arr (lf_arr h)))))))))))) ?_ (st_of [(1, .inr (0, 6)), (2, .inr (0, 15)), (3, .inr (0, 15)), (4, .inr (0, 15)), (5, .inr (0, 36)), (6, .inr (0, 12)), (7, .inr (0, 12)), (8, .inr (0, 12)), (9, .inr (0, 12)), (10, .inr (0, 6)), (11, .inr (0, 6)), (12, .inr (0, 6))] (by decide +kernel) ?_)
  · repeat (first | exact ho | rw [kS_ne2 (by omega)])
  · simp only [List.forall_mem_cons, List.not_mem_nil, false_imp_iff, implies_true, and_true]
    refine ⟨?_, ?_, ?_, ?_, ?_, ?_, ?_, ?_, ?_, ?_, ?_, ?_⟩
    all_goals repeat (first | exact kS_eq | rw [kS_ne2 (by omega)])
set_option maxHeartbeats 4000000 in
set_option maxRecDepth 100000 in
theorem lf3 {o : Nat} {K : Ly} (h : LF (o + 1) K) (ho : K o = some (.inl 15)) : LF (o + 4) (kI3 K o) := by
  unfold kI3
  refine lf_fin (ci := 3) (n := o + 4) (lf_arr (lf_arr (lf_arr h))) ?_ (st_of [(1, .inr (0, 40)), (2, .inr (0, 40)), (3, .inr (0, 40))] (by decide +kernel) ?_)
  · repeat (first | exact ho | rw [kS_ne2 (by omega)])
  · simp only [List.forall_mem_cons, List.not_mem_nil, false_imp_iff, implies_true, and_true]
    refine ⟨?_, ?_, ?_⟩
    all_goals repeat (first | exact kS_eq | rw [kS_ne2 (by omega)])
set_option maxHeartbeats 4000000 in
set_option maxRecDepth 100000 in
theorem lf4 {o : Nat} {K : Ly} (h : LF (o + 1) K) (ho : K o = some (.inl 16)) : LF (o + 3) (kI4 K o) := by
  unfold kI4
  refine lf_fin (ci := 4) (n := o + 3) (lf_arr (lf_arr h)) ?_ (st_of [(1, .inr (0, 8)), (2, .inr (0, 8))] (by decide +kernel) ?_)
  · repeat (first | exact ho | rw [kS_ne2 (by omega)])
  · simp only [List.forall_mem_cons, List.not_mem_nil, false_imp_iff, implies_true, and_true]
    refine ⟨?_, ?_⟩
    all_goals repeat (first | exact kS_eq | rw [kS_ne2 (by omega)])
set_option maxHeartbeats 4000000 in
set_option maxRecDepth 100000 in
theorem lf6 {o : Nat} {K : Ly} (h : LF (o + 1) K) (ho : K o = some (.inl 18)) : LF (o + 1) (kI6 K o) := by
  unfold kI6
  refine lf_fin (ci := 6) (n := o + 1) h ?_ (st_of [] (by decide +kernel) ?_)
  · repeat (first | exact ho | rw [kS_ne2 (by omega)])
  · exact fun q hq => absurd hq List.not_mem_nil
set_option maxHeartbeats 4000000 in
set_option maxRecDepth 100000 in
theorem lf7 {o : Nat} {K : Ly} (h : LF (o + 1) K) (ho : K o = some (.inl 19)) : LF (o + 1) (kI7 K o) := by
  unfold kI7
  refine lf_fin (ci := 7) (n := o + 1) h ?_ (st_of [] (by decide +kernel) ?_)
  · repeat (first | exact ho | rw [kS_ne2 (by omega)])
  · exact fun q hq => absurd hq List.not_mem_nil
set_option maxHeartbeats 4000000 in
set_option maxRecDepth 100000 in
theorem lf8 {o : Nat} {K : Ly} (h : LF (o + 1) K) (ho : K o = some (.inl 20)) : LF (o + 4) (kI8 K o) := by
  unfold kI8
  refine lf_fin (ci := 8) (n := o + 4) (lf_arr (lf_arr (lf_arr h))) ?_ (st_of [(1, .inr (0, 4)), (2, .inr (0, 4)), (3, .inr (0, 4))] (by decide +kernel) ?_)
  · repeat (first | exact ho | rw [kS_ne2 (by omega)])
  · simp only [List.forall_mem_cons, List.not_mem_nil, false_imp_iff, implies_true, and_true]
    refine ⟨?_, ?_, ?_⟩
    all_goals repeat (first | exact kS_eq | rw [kS_ne2 (by omega)])
set_option maxHeartbeats 4000000 in
set_option maxRecDepth 100000 in
theorem lf9 {o : Nat} {K : Ly} (h : LF (o + 1) K) (ho : K o = some (.inl 21)) : LF (o + 1) (kI9 K o) := by
  unfold kI9
  refine lf_fin (ci := 9) (n := o + 1) h ?_ (st_of [] (by decide +kernel) ?_)
  · repeat (first | exact ho | rw [kS_ne2 (by omega)])
  · exact fun q hq => absurd hq List.not_mem_nil
set_option maxHeartbeats 4000000 in
set_option maxRecDepth 100000 in
theorem lf1 {o : Nat} {K : Ly} (h : LF (o + 1) K) (ho : K o = some (.inl 13)) : LF (o + 46) (kI1 K o) := by
  unfold kI1
  refine lf_fin (ci := 1) (n := o + 46) (lf4 (lf_raw (lf4 (lf_raw (lf_arr (lf3 (lf_raw (lf3 (lf_raw (lf_arr (lf2 (lf_raw (lf2 (lf_raw (lf_arr (lf_arr (lf_arr h))) (fc_raw 14 (by decide +kernel))) kS_eq) (fc_raw 14 (by decide +kernel))) kS_eq)) (fc_raw 15 (by decide +kernel))) kS_eq) (fc_raw 15 (by decide +kernel))) kS_eq)) (fc_raw 16 (by decide +kernel))) kS_eq) (fc_raw 16 (by decide +kernel))) kS_eq) ?_ (st_of [(1, .inr (1, 600)), (2, .inr (0, 3)), (3, .inr (5, 2)), (30, .inr (6, 2)), (39, .inr (7, 2))] (by decide +kernel) ?_)
  · repeat (first | exact ho | rw [kS_ne2 (by omega)] | rw [kI2_old (by omega)] | rw [kI3_old (by omega)] | rw [kI4_old (by omega)])
  · simp only [List.forall_mem_cons, List.not_mem_nil, false_imp_iff, implies_true, and_true]
    refine ⟨?_, ?_, ?_, ?_, ?_⟩
    all_goals repeat (first | exact kS_eq | rw [kS_ne2 (by omega)] | rw [kI2_old (by omega)] | exact kI2_o | rw [kI3_old (by omega)] | exact kI3_o | rw [kI4_old (by omega)] | exact kI4_o)
set_option maxHeartbeats 4000000 in
set_option maxRecDepth 100000 in
theorem lf5 {o : Nat} {K : Ly} (h : LF (o + 1) K) (ho : K o = some (.inl 17)) : LF (o + 23) (kI5 K o) := by
  unfold kI5
  refine lf_fin (ci := 5) (n := o + 23) (lf_arr (lf_arr (lf4 (lf_raw (lf3 (lf_raw (lf2 (lf_raw h (fc_raw 14 (by decide +kernel))) kS_eq) (fc_raw 15 (by decide +kernel))) kS_eq) (fc_raw 16 (by decide +kernel))) kS_eq))) ?_ (st_of [(1, .inl 2), (14, .inl 3), (18, .inl 4), (21, .inr (0, 4))] (by decide +kernel) ?_)
  · repeat (first | exact ho | rw [kS_ne2 (by omega)] | rw [kI2_old (by omega)] | rw [kI3_old (by omega)] | rw [kI4_old (by omega)])
  · simp only [List.forall_mem_cons, List.not_mem_nil, false_imp_iff, implies_true, and_true]
    refine ⟨?_, ?_, ?_, ?_⟩
    all_goals repeat (first | exact kS_eq | rw [kS_ne2 (by omega)] | rw [kI2_old (by omega)] | exact kI2_o | rw [kI3_old (by omega)] | exact kI3_o | rw [kI4_old (by omega)] | exact kI4_o)
set_option maxHeartbeats 4000000 in
set_option maxRecDepth 100000 in
theorem lf11 {o : Nat} {K : Ly} (h : LF (o + 1) K) (ho : K o = some (.inl 23)) : LF (o + 53) (kI11 K o) := by
  unfold kI11
  refine lf_fin (ci := 11) (n := o + 53) (lf_arr (lf_arr (lf_arr (lf_arr (lf_arr (lf_arr (lf_arr (lf_arr (lf_arr (lf_arr (lf_arr (lf_arr (lf_arr (lf_arr (lf_arr (lf_arr (lf_arr (lf_arr (lf_arr (lf_arr (lf_arr (lf_arr (lf_arr (lf_arr (lf_arr (lf_arr (lf_arr (lf_arr (lf_arr (lf_arr (lf_arr (lf_arr (lf_arr (lf_arr (lf_arr (lf_arr (lf_arr (lf_arr (lf_arr (lf_arr (lf_arr (lf_arr (lf_arr (lf_arr (lf_arr (lf_arr (lf_arr (lf_arr (lf_arr (lf_arr (lf_arr (lf_arr h)))))))))))))))))))))))))))))))))))))))))))))))))))) ?_ (st_of [(1, .inr (1, 2400)), (2, .inr (0, 4)), (3, .inr (0, 4)), (4, .inr (0, 4)), (5, .inr (0, 12)), (6, .inr (0, 976)), (7, .inr (0, 968)), (8, .inr (0, 136)), (9, .inr (0, 122)), (10, .inr (0, 4)), (11, .inr (0, 36)), (12, .inr (3, 6)), (13, .inr (0, 36)), (14, .inr (0, 6)), (15, .inr (0, 36)), (16, .inr (0, 36)), (17, .inr (0, 36)), (18, .inr (0, 6)), (19, .inr (0, 384)), (20, .inr (0, 384)), (21, .inr (0, 384)), (22, .inr (3, 384)), (23, .inr (3, 384)), (24, .inr (0, 384)), (25, .inr (0, 384)), (26, .inr (0, 384)), (27, .inr (0, 384)), (28, .inr (0, 384)), (29, .inr (0, 4096)), (30, .inr (0, 4096)), (31, .inr (0, 4096)), (32, .inr (0, 4096)), (33, .inr (0, 4096)), (34, .inr (0, 4096)), (35, .inr (0, 4096)), (36, .inr (0, 4096)), (37, .inr (0, 4096)), (38, .inr (0, 4096)), (39, .inr (0, 4096)), (40, .inr (0, 64)), (41, .inr (0, 64)), (42, .inr (0, 64)), (43, .inr (0, 64)), (44, .inr (0, 64)), (45, .inr (0, 64)), (46, .inr (0, 64)), (47, .inr (0, 64)), (48, .inr (0, 48)), (49, .inr (0, 8)), (50, .inr (0, 36)), (51, .inr (0, 40)), (52, .inr (2, 3))] (by decide +kernel) ?_)
  · repeat (first | exact ho | rw [kS_ne2 (by omega)])
  · simp only [List.forall_mem_cons, List.not_mem_nil, false_imp_iff, implies_true, and_true]
    refine ⟨?_, ?_, ?_, ?_, ?_, ?_, ?_, ?_, ?_, ?_, ?_, ?_, ?_, ?_, ?_, ?_, ?_, ?_, ?_, ?_, ?_, ?_, ?_, ?_, ?_, ?_, ?_, ?_, ?_, ?_, ?_, ?_, ?_, ?_, ?_, ?_, ?_, ?_, ?_, ?_, ?_, ?_, ?_, ?_, ?_, ?_, ?_, ?_, ?_, ?_, ?_, ?_⟩
    all_goals repeat (first | exact kS_eq | rw [kS_ne2 (by omega)])
