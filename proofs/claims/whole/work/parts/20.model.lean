-- AskedNamesModel.in
def f11_in (a0 : Int32) (a1 : Int32) (a2 : Int32) : Int32 :=
    (if a0 < a1 then (0 : Int32) else (if a2 < a0 then (0 : Int32) else (1 : Int32)))
set_option maxHeartbeats 4000000 in
set_option maxRecDepth 20000 in
theorem c11_in {sp : Sp} {K : Ly} {sz : Nat} (hK : LyOk K) (a0 : Int32) (a1 : Int32) (a2 : Int32) (h : Hp)  : Con sp y11_in prog_13_method_3_code 3 (some (.boolean)) 1 0 0 [.int a0, .int a1, .int a2] sz K h (some (.int (f11_in a0 a1 a2))) sz K h := by
  obtain ⟨v, E⟩ : ∃ v, f11_in a0 a1 a2 = v := ⟨_, rfl⟩
  rw [E]
  refine Con.of (by decide) (Nat.le_of_ble_eq_true rfl) (fun Γ X _ => ?_)
  show Go Γ (0, 0) 0 [(0, .int a0), (1, .int a1), (2, .int a2)] [] sz K h
  unfold f11_in at E
  refine g_iload_n (n := 0) X (by decide +kernel) 0 rfl ?_
  refine g_iload_n (n := 1) X (by decide +kernel) 1 rfl ?_
  have hJ : Go Γ (0, 0) 15 [] [.int (if a0 < a1 then (0 : Int32) else (if a2 < a0 then (0 : Int32) else (1 : Int32)))] sz K h := by
    subst E
    exact g_zreturn X (by decide +kernel) (by (repeat' split) <;> rfl)
  clear E
  by_cases c1 : a0 < a1
  · rw [if_pos c1] at hJ
    refine g_icmp_lt_t (off := 12) (tgt := 14) X (by decide +kernel) (by decide) c1 ?_
    refine g_iconst (n := 0) (x := (0 : Int32)) X (by decide +kernel) (by decide) ?_
    refine g_sub [] rfl ?_
    exact hJ
  · rw [if_neg c1] at hJ
    refine g_icmp_lt_f (off := 12) (tgt := 14) X (by decide +kernel) (by decide) c1 ?_
    refine g_iload_n (n := 0) X (by decide +kernel) 0 rfl ?_
    refine g_iload_n (n := 2) X (by decide +kernel) 2 rfl ?_
    by_cases c2 : a2 < a0
    · rw [if_pos c2] at hJ
      refine g_icmp_gt_t (off := 7) (tgt := 14) X (by decide +kernel) (by decide) c2 ?_
      refine g_iconst (n := 0) (x := (0 : Int32)) X (by decide +kernel) (by decide) ?_
      refine g_sub [] rfl ?_
      exact hJ
    · rw [if_neg c2] at hJ
      refine g_icmp_gt_f (off := 7) (tgt := 14) X (by decide +kernel) (by decide) c2 ?_
      refine g_iconst (n := 1) (x := (1 : Int32)) X (by decide +kernel) (by decide) ?_
      refine g_goto (off := 4) (tgt := 15) X (by decide +kernel) (by decide) ?_
      refine g_sub [] rfl ?_
      exact hJ
-- AskedNamesModel.has
def f11_has (a0 : Int32) (a1 : Int32) : Int32 :=
    (if ((a0 >>> (a1 &&& 31)) &&& (1 : Int32)) = (1 : Int32) then (1 : Int32) else (0 : Int32))
set_option maxHeartbeats 4000000 in
set_option maxRecDepth 20000 in
theorem c11_has {sp : Sp} {K : Ly} {sz : Nat} (hK : LyOk K) (a0 : Int32) (a1 : Int32) (h : Hp)  : Con sp y11_has prog_13_method_4_code 2 (some (.boolean)) 1 0 0 [.int a0, .int a1] sz K h (some (.int (f11_has a0 a1))) sz K h := by
  obtain ⟨v, E⟩ : ∃ v, f11_has a0 a1 = v := ⟨_, rfl⟩
  rw [E]
  refine Con.of (by decide) (Nat.le_of_ble_eq_true rfl) (fun Γ X _ => ?_)
  show Go Γ (0, 0) 0 [(0, .int a0), (1, .int a1)] [] sz K h
  unfold f11_has at E
  refine g_iload_n (n := 0) X (by decide +kernel) 0 rfl ?_
  refine g_iload_n (n := 1) X (by decide +kernel) 1 rfl ?_
  refine g_ishr X (by decide +kernel) ?_
  refine g_iconst (n := 1) (x := (1 : Int32)) X (by decide +kernel) (by decide) ?_
  refine g_iand X (by decide +kernel) ?_
  refine g_iconst (n := 1) (x := (1 : Int32)) X (by decide +kernel) (by decide) ?_
  have hJ : Go Γ (0, 0) 14 [] [.int (if ((a0 >>> (a1 &&& 31)) &&& (1 : Int32)) = (1 : Int32) then (1 : Int32) else (0 : Int32))] sz K h := by
    subst E
    exact g_zreturn X (by decide +kernel) (by (repeat' split) <;> rfl)
  clear E
  by_cases c1 : ((a0 >>> (a1 &&& 31)) &&& (1 : Int32)) = (1 : Int32)
  · rw [if_pos c1] at hJ
    refine g_icmp_ne_f (off := 7) (tgt := 13) X (by decide +kernel) (by decide) (fun z => z c1) ?_
    refine g_iconst (n := 1) (x := (1 : Int32)) X (by decide +kernel) (by decide) ?_
    refine g_goto (off := 4) (tgt := 14) X (by decide +kernel) (by decide) ?_
    refine g_sub [] rfl ?_
    exact hJ
  · rw [if_neg c1] at hJ
    refine g_icmp_ne_t (off := 7) (tgt := 13) X (by decide +kernel) (by decide) c1 ?_
    refine g_iconst (n := 0) (x := (0 : Int32)) X (by decide +kernel) (by decide) ?_
    refine g_sub [] rfl ?_
    exact hJ
-- AskedNamesModel.greater
def f11_greater (a0 : Int32) (a1 : Int32) : Int32 :=
    (if a0 ≤ a1 then a1 else a0)
set_option maxHeartbeats 4000000 in
set_option maxRecDepth 20000 in
theorem c11_greater {sp : Sp} {K : Ly} {sz : Nat} (hK : LyOk K) (a0 : Int32) (a1 : Int32) (h : Hp)  : Con sp y11_greater prog_13_method_5_code 2 (some (.int)) 1 0 0 [.int a0, .int a1] sz K h (some (.int (f11_greater a0 a1))) sz K h := by
  obtain ⟨v, E⟩ : ∃ v, f11_greater a0 a1 = v := ⟨_, rfl⟩
  rw [E]
  refine Con.of (by decide) (Nat.le_of_ble_eq_true rfl) (fun Γ X _ => ?_)
  show Go Γ (0, 0) 0 [(0, .int a0), (1, .int a1)] [] sz K h
  unfold f11_greater at E
  refine g_iload_n (n := 0) X (by decide +kernel) 0 rfl ?_
  refine g_iload_n (n := 1) X (by decide +kernel) 1 rfl ?_
  have hJ : Go Γ (0, 0) 10 [] [.int (if a0 ≤ a1 then a1 else a0)] sz K h := by
    subst E
    exact g_ireturn X (by decide +kernel)
  clear E
  by_cases c1 : a0 ≤ a1
  · rw [if_pos c1] at hJ
    refine g_icmp_le_t (off := 7) (tgt := 9) X (by decide +kernel) (by decide) c1 ?_
    refine g_iload_n (n := 1) X (by decide +kernel) 1 rfl ?_
    refine g_sub [] rfl ?_
    exact hJ
  · rw [if_neg c1] at hJ
    refine g_icmp_le_f (off := 7) (tgt := 9) X (by decide +kernel) (by decide) c1 ?_
    refine g_iload_n (n := 0) X (by decide +kernel) 0 rfl ?_
    refine g_goto (off := 4) (tgt := 10) X (by decide +kernel) (by decide) ?_
    refine g_sub [] rfl ?_
    exact hJ
-- AskedNamesModel.lesser
def f11_lesser (a0 : Int32) (a1 : Int32) : Int32 :=
    (if a1 ≤ a0 then a1 else a0)
set_option maxHeartbeats 4000000 in
set_option maxRecDepth 20000 in
theorem c11_lesser {sp : Sp} {K : Ly} {sz : Nat} (hK : LyOk K) (a0 : Int32) (a1 : Int32) (h : Hp)  : Con sp y11_lesser prog_13_method_6_code 2 (some (.int)) 1 0 0 [.int a0, .int a1] sz K h (some (.int (f11_lesser a0 a1))) sz K h := by
  obtain ⟨v, E⟩ : ∃ v, f11_lesser a0 a1 = v := ⟨_, rfl⟩
  rw [E]
  refine Con.of (by decide) (Nat.le_of_ble_eq_true rfl) (fun Γ X _ => ?_)
  show Go Γ (0, 0) 0 [(0, .int a0), (1, .int a1)] [] sz K h
  unfold f11_lesser at E
  refine g_iload_n (n := 0) X (by decide +kernel) 0 rfl ?_
  refine g_iload_n (n := 1) X (by decide +kernel) 1 rfl ?_
  have hJ : Go Γ (0, 0) 10 [] [.int (if a1 ≤ a0 then a1 else a0)] sz K h := by
    subst E
    exact g_ireturn X (by decide +kernel)
  clear E
  by_cases c1 : a1 ≤ a0
  · rw [if_pos c1] at hJ
    refine g_icmp_ge_t (off := 7) (tgt := 9) X (by decide +kernel) (by decide) c1 ?_
    refine g_iload_n (n := 1) X (by decide +kernel) 1 rfl ?_
    refine g_sub [] rfl ?_
    exact hJ
  · rw [if_neg c1] at hJ
    refine g_icmp_ge_f (off := 7) (tgt := 9) X (by decide +kernel) (by decide) c1 ?_
    refine g_iload_n (n := 0) X (by decide +kernel) 0 rfl ?_
    refine g_goto (off := 4) (tgt := 10) X (by decide +kernel) (by decide) ?_
    refine g_sub [] rfl ?_
    exact hJ
-- AskedNamesModel.ones
def f11_ones_J24 (K : Ly) (n : Nat) (r4 : Int32 → Int32 → Option (Int32)) (x0 : Int32) (x2 : Int32) (s0 : Int32) (s1 : Int32) (h : Hp) : Option (Int32) :=
    lt (s0 + s1) fun x1_3 =>
    lt (x2 + (1 : Int32)) fun x2_4 =>
    r4 x1_3 x2_4
def f11_ones_L4 (K : Ly) (n : Nat) (x0 : Int32) (h : Hp)  : Nat → Int32 → Int32 → Option (Int32)
  | 0, _, _ => none
  | k + 1, x1, x2 =>
    if (15 : Int32) ≤ x2 then (
    some x1)
    else (
    f11_ones_J24 K n (f11_ones_L4 K n x0 h  k) x0 x2 x1 (if (f11_has x0 x2) = 0 then (0 : Int32) else (1 : Int32)) h)
def f11_ones (K : Ly) (n : Nat) (a0 : Int32) (h : Hp) : Option (Int32) :=
    f11_ones_L4 K n a0 h n (0 : Int32) (0 : Int32)
set_option maxHeartbeats 4000000 in
set_option maxRecDepth 20000 in
theorem w11_ones_J24 {Γ : CT} {sp : Sp} {K : Ly} {sz n : Nat} {v : Int32} {h : Hp}  {r4 : Int32 → Int32 → Option (Int32)}  (X : Ok Γ sp prog_13_method_7_code Rc11 3 (some (.int)) 2 (some (.int v)) sz K h) (hK : LyOk K) (x0 : Int32) (x2 : Int32) (s0 : Int32) (s1 : Int32)  (hr4 : ∀ (x1 : Int32) (x2 : Int32), r4 x1 x2 = some v → Go Γ (0, 0) 4 [(0, .int x0), (1, .int x1), (2, .int x2)] [] sz K h)  (E : f11_ones_J24 K n r4 x0 x2 s0 s1 h = some v) : Go Γ (0, 0) 24 [(0, .int x0), (2, .int x2)] [.int s1, .int s0] sz K h := by
  unfold f11_ones_J24 at E
  refine g_iadd X (by decide +kernel) ?_
  obtain ⟨x1_3, ex1_3, E⟩ := lt_E E
  refine s_istore_n (n := 1) (i := 1) X (by decide +kernel) rfl (by decide) ex1_3 (ls_next (by decide) (Or.inr rfl) (ls_ins (ls_next (by decide) (Or.inr rfl) ls_end))) ?_
  obtain ⟨x2_4, ex2_4, E⟩ := lt_E E
  refine s_iinc (i := 2) (n := 1) (y := x2_4) X (by decide +kernel) 2 rfl (by decide) ex2_4 (ls_next (by decide) (Or.inr rfl) (ls_next (by decide) (Or.inr rfl) (ls_here ls_end))) ?_
  refine g_goto (off := -25) (tgt := 4) X (by decide +kernel) (by decide) ?_
  exact hr4 x1_3 x2_4  E
set_option maxHeartbeats 4000000 in
set_option maxRecDepth 20000 in
theorem w11_ones_L4 {Γ : CT} {sp : Sp} {K : Ly} {sz n : Nat} {v : Int32} {h : Hp}  (X : Ok Γ sp prog_13_method_7_code Rc11 3 (some (.int)) 2 (some (.int v)) sz K h) (hK : LyOk K) (x0 : Int32)    : ∀ (k : Nat) (x1 : Int32) (x2 : Int32), f11_ones_L4 K n x0 h  k x1 x2 = some v → Go Γ (0, 0) 4 [(0, .int x0), (1, .int x1), (2, .int x2)] [] sz K h := by
  intro k
  induction k with
  | zero => intro x1 x2 E; cases E
  | succ k ih =>
    intro x1 x2 E
    unfold f11_ones_L4 at E
    refine g_iload_n (n := 2) X (by decide +kernel) 2 rfl ?_
    refine g_bipush (n := 15) (x := (15 : Int32)) X (by decide +kernel) (by decide) ?_
    rcases it_E E with ⟨c1, E⟩ | ⟨c1, E⟩
    · refine g_icmp_ge_t (off := 25) (tgt := 32) X (by decide +kernel) (by decide) c1 ?_
      refine g_iload_n (n := 1) X (by decide +kernel) 1 rfl ?_
      obtain rfl := Option.some.inj E
      exact g_ireturn X (by decide +kernel)
    · refine g_icmp_ge_f (off := 25) (tgt := 32) X (by decide +kernel) (by decide) c1 ?_
      refine g_iload_n (n := 1) X (by decide +kernel) 1 rfl ?_
      refine g_iload_n (n := 0) X (by decide +kernel) 0 rfl ?_
      refine g_iload_n (n := 2) X (by decide +kernel) 2 rfl ?_
      refine g_callS1 (st := [.int x1]) X [.int x0, .int x2] (by decide +kernel) ml11_173 (by decide) (Nat.le_of_ble_eq_true rfl) (c11_has hK x0 x2 h ) ?_
      have hJ : Go Γ (0, 0) 24 [(0, .int x0), (2, .int x2)] [.int (if (f11_has x0 x2) = 0 then (0 : Int32) else (1 : Int32)), .int x1] sz K h := by
        exact w11_ones_J24 X hK x0 x2 x1 (if (f11_has x0 x2) = 0 then (0 : Int32) else (1 : Int32)) ih E
      clear E
      by_cases c2 : (f11_has x0 x2) = 0
      · rw [if_pos c2] at hJ
        refine g_if_eq_t (off := 7) (tgt := 23) X (by decide +kernel) (by decide) c2 ?_
        refine g_iconst (n := 0) (x := (0 : Int32)) X (by decide +kernel) (by decide) ?_
        refine g_sub [0, 2] rfl ?_
        exact hJ
      · rw [if_neg c2] at hJ
        refine g_if_eq_f (off := 7) (tgt := 23) X (by decide +kernel) (by decide) c2 ?_
        refine g_iconst (n := 1) (x := (1 : Int32)) X (by decide +kernel) (by decide) ?_
        refine g_goto (off := 4) (tgt := 24) X (by decide +kernel) (by decide) ?_
        refine g_sub [0, 2] rfl ?_
        exact hJ
set_option maxHeartbeats 4000000 in
set_option maxRecDepth 20000 in
theorem c11_ones {sp : Sp} {K : Ly} {sz n : Nat} (hK : LyOk K) (a0 : Int32) (h : Hp)  {v : Int32} (E : f11_ones K n a0 h = some v) : Con sp y11_ones prog_13_method_7_code 3 (some (.int)) 2 0 0 [.int a0] sz K h (some (.int v)) sz K h := by
  refine Con.of (by decide) (Nat.le_of_ble_eq_true rfl) (fun Γ X _ => ?_)
  show Go Γ (0, 0) 0 [(0, .int a0)] [] sz K h
  unfold f11_ones at E
  refine g_iconst (n := 0) (x := (0 : Int32)) X (by decide +kernel) (by decide) ?_
  refine s_istore_n (n := 1) (i := 1) X (by decide +kernel) rfl (by decide) rfl (ls_next (by decide) (Or.inr rfl) (ls_ins ls_end)) ?_
  refine g_iconst (n := 0) (x := (0 : Int32)) X (by decide +kernel) (by decide) ?_
  refine s_istore_n (n := 2) (i := 2) X (by decide +kernel) rfl (by decide) rfl (ls_next (by decide) (Or.inr rfl) (ls_next (by decide) (Or.inr rfl) (ls_ins ls_end))) ?_
  exact w11_ones_L4 X hK a0 n (0 : Int32) (0 : Int32) E
-- AskedNamesModel.copyRow
def f11_copyRow_L3 (K : Ly) (n : Nat) (a0n : Nat) (x0 : Nat) (x1 : Int32) (x2 : Int32) (x3 : Int32)   : Nat → Int32 → Hp → Option Hp
  | 0, _, _ => none
  | k + 1, x4, h =>
    if x1 ≤ x4 then (
    some h)
    else (
    gd (inb ((x1 * x2) + x4) a0n) <|
    gd (inb ((x1 * x3) + x4) a0n) <|
    lt (sI h x0 ((x1 * x3) + x4).toNatClampNeg (h.1 x0 ((x1 * x2) + x4).toNatClampNeg)) fun h4 =>
    lt (x4 + (1 : Int32)) fun x4_5 =>
    f11_copyRow_L3 K n a0n x0 x1 x2 x3  k x4_5 h4)
def f11_copyRow (K : Ly) (n : Nat) (a0 a0n : Nat) (a1 : Int32) (a2 : Int32) (a3 : Int32) (h : Hp) : Option Hp :=
    f11_copyRow_L3 K n a0n a0 a1 a2 a3 n (0 : Int32) h
set_option maxHeartbeats 4000000 in
set_option maxRecDepth 20000 in
theorem w11_copyRow_L3 {Γ : CT} {sp : Sp} {K : Ly} {sz n : Nat} {hf : Hp}  (X : Ok Γ sp prog_13_method_8_code Rc11 5 none 1 none sz K hf) (hK : LyOk K) (a0n : Nat) (x0 : Nat) (x1 : Int32) (x2 : Int32) (x3 : Int32)  (px0 : K x0 = some (.inr (0, a0n)))  : ∀ (k : Nat) (x4 : Int32) (h : Hp), f11_copyRow_L3 K n a0n x0 x1 x2 x3  k x4 h = some hf → Go Γ (0, 0) 3 [(0, .ref x0), (1, .int x1), (2, .int x2), (3, .int x3), (4, .int x4)] [] sz K h := by
  intro k
  induction k with
  | zero => intro x4 h E; cases E
  | succ k ih =>
    intro x4 h E
    unfold f11_copyRow_L3 at E
    refine g_iload (n := 4) X (by decide +kernel) 4 rfl ?_
    refine g_iload_n (n := 1) X (by decide +kernel) 1 rfl ?_
    rcases it_E E with ⟨c1, E⟩ | ⟨c1, E⟩
    · refine g_icmp_ge_t (off := 25) (tgt := 31) X (by decide +kernel) (by decide) c1 ?_
      obtain rfl := Option.some.inj E
      exact g_return X (by decide +kernel)
    · refine g_icmp_ge_f (off := 25) (tgt := 31) X (by decide +kernel) (by decide) c1 ?_
      refine g_aload_n (n := 0) X (by decide +kernel) 0 rfl ?_
      refine g_iload_n (n := 1) X (by decide +kernel) 1 rfl ?_
      refine g_iload_n (n := 3) X (by decide +kernel) 3 rfl ?_
      refine g_imul X (by decide +kernel) ?_
      refine g_iload (n := 4) X (by decide +kernel) 4 rfl ?_
      refine g_iadd X (by decide +kernel) ?_
      refine g_aload_n (n := 0) X (by decide +kernel) 0 rfl ?_
      refine g_iload_n (n := 1) X (by decide +kernel) 1 rfl ?_
      refine g_iload_n (n := 2) X (by decide +kernel) 2 rfl ?_
      refine g_imul X (by decide +kernel) ?_
      refine g_iload (n := 4) X (by decide +kernel) 4 rfl ?_
      refine g_iadd X (by decide +kernel) ?_
      obtain ⟨c2, E⟩ := gd_E E
      refine g_iald X (by decide +kernel) px0 c2 ?_
      obtain ⟨c3, E⟩ := gd_E E
      obtain ⟨h4, eh4, E⟩ := lt_E E
      refine g_iast X (by decide +kernel) px0 c3 eh4 ?_
      obtain ⟨x4_5, ex4_5, E⟩ := lt_E E
      refine s_iinc (i := 4) (n := 1) (y := x4_5) X (by decide +kernel) 4 rfl (by decide) ex4_5 (ls_next (by decide) (Or.inr rfl) (ls_next (by decide) (Or.inr rfl) (ls_next (by decide) (Or.inr rfl) (ls_next (by decide) (Or.inr rfl) (ls_here ls_end))))) ?_
      refine g_goto (off := -25) (tgt := 3) X (by decide +kernel) (by decide) ?_
      exact ih x4_5 h4  E
set_option maxHeartbeats 4000000 in
set_option maxRecDepth 20000 in
theorem c11_copyRow {sp : Sp} {K : Ly} {sz n : Nat} (hK : LyOk K) (a0 a0n : Nat) (a1 : Int32) (a2 : Int32) (a3 : Int32) (h : Hp) (ha0 : K a0 = some (.inr (0, a0n))) {hf : Hp} (E : f11_copyRow K n a0 a0n a1 a2 a3 h = some hf) : Con sp y11_copyRow prog_13_method_8_code 5 none 1 0 0 [.ref a0, .int a1, .int a2, .int a3] sz K h none sz K hf := by
  refine Con.of (by decide) (Nat.le_of_ble_eq_true rfl) (fun Γ X _ => ?_)
  show Go Γ (0, 0) 0 [(0, .ref a0), (1, .int a1), (2, .int a2), (3, .int a3)] [] sz K h
  unfold f11_copyRow at E
  refine g_iconst (n := 0) (x := (0 : Int32)) X (by decide +kernel) (by decide) ?_
  refine s_istore (i := 4) X (by decide +kernel) (by decide) rfl (ls_next (by decide) (Or.inr rfl) (ls_next (by decide) (Or.inr rfl) (ls_next (by decide) (Or.inr rfl) (ls_next (by decide) (Or.inr rfl) (ls_ins ls_end))))) ?_
  exact w11_copyRow_L3 X hK a0n a0 a1 a2 a3 ha0 n (0 : Int32) h E
-- AskedNamesModel.copyAll
def f11_copyAll_L2 (K : Ly) (n : Nat) (x0 : Nat) (x1 : Int32) (x2 : Int32)   : Nat → Int32 → Hp → Option Hp
  | 0, _, _ => none
  | k + 1, x3, h =>
    if (600 : Int32) ≤ x3 then (
    bp (f11_copyRow K n (x0 + 2) 4 (1 : Int32) x1 x2 h) fun h3 =>
    bp (f11_copyRow K n (x0 + 3) 4 (1 : Int32) x1 x2 h3) fun h5 =>
    bp (f11_copyRow K n (x0 + 4) 4 (1 : Int32) x1 x2 h5) fun h7 =>
    bp (f11_copyRow K n (x0 + 5) 12 (3 : Int32) x1 x2 h7) fun h9 =>
    bp (f11_copyRow K n (x0 + 6) 976 (244 : Int32) x1 x2 h9) fun h11 =>
    bp (f11_copyRow K n (x0 + 7) 968 (242 : Int32) x1 x2 h11) fun h13 =>
    bp (f11_copyRow K n (x0 + 8) 136 (34 : Int32) x1 x2 h13) fun h15 =>
    some h15)
    else (
    gd (inb (((600 : Int32) * x1) + x3) 2400) <|
    gd (inb (((600 : Int32) * x2) + x3) 2400) <|
    lt (sI h (x0 + 1) (((600 : Int32) * x2) + x3).toNatClampNeg (h.1 (x0 + 1) (((600 : Int32) * x1) + x3).toNatClampNeg).toInt8.toInt32) fun h18 =>
    lt (x3 + (1 : Int32)) fun x3_19 =>
    f11_copyAll_L2 K n x0 x1 x2  k x3_19 h18)
def f11_copyAll (K : Ly) (n : Nat) (o : Nat) (a1 : Int32) (a2 : Int32) (h : Hp) : Option Hp :=
    f11_copyAll_L2 K n o a1 a2 n (0 : Int32) h
set_option maxHeartbeats 4000000 in
set_option maxRecDepth 20000 in
theorem w11_copyAll_L2 {Γ : CT} {sp : Sp} {K : Ly} {sz n : Nat} {hf : Hp}  (X : Ok Γ sp prog_13_method_9_code Rc11 4 none 2 none sz K hf) (hK : LyOk K) (x0 : Nat) (x1 : Int32) (x2 : Int32)  (px0 : K x0 = some (.inl 11))  : ∀ (k : Nat) (x3 : Int32) (h : Hp), f11_copyAll_L2 K n x0 x1 x2  k x3 h = some hf → Go Γ (0, 0) 2 [(0, .ref x0), (1, .int x1), (2, .int x2), (3, .int x3)] [] sz K h := by
  intro k
  induction k with
  | zero => intro x3 h E; cases E
  | succ k ih =>
    intro x3 h E
    unfold f11_copyAll_L2 at E
    refine g_iload_n (n := 3) X (by decide +kernel) 3 rfl ?_
    refine g_sipush (n := 600) (x := (600 : Int32)) X (by decide +kernel) (by decide) ?_
    rcases it_E E with ⟨c1, E⟩ | ⟨c1, E⟩
    · refine g_icmp_ge_t (off := 33) (tgt := 39) X (by decide +kernel) (by decide) c1 ?_
      refine g_aload_n (n := 0) X (by decide +kernel) 0 rfl ?_
      refine g_getS X (by decide +kernel) fl11_13 px0 ?_
      refine g_iconst (n := 1) (x := (1 : Int32)) X (by decide +kernel) (by decide) ?_
      refine g_iload_n (n := 1) X (by decide +kernel) 1 rfl ?_
      refine g_iload_n (n := 2) X (by decide +kernel) 2 rfl ?_
      obtain ⟨h3, e2, E⟩ := bp_E E
      refine g_callS0 (st := []) X [.ref (x0 + 2), .int (1 : Int32), .int x1, .int x2] (by decide +kernel) ml11_177 (by decide) (Nat.le_of_ble_eq_true rfl) (c11_copyRow hK (x0 + 2) 4 (1 : Int32) x1 x2 h (ly hK px0 fl11_13 rfl) e2) ?_
      refine g_aload_n (n := 0) X (by decide +kernel) 0 rfl ?_
      refine g_getS X (by decide +kernel) fl11_17 px0 ?_
      refine g_iconst (n := 1) (x := (1 : Int32)) X (by decide +kernel) (by decide) ?_
      refine g_iload_n (n := 1) X (by decide +kernel) 1 rfl ?_
      refine g_iload_n (n := 2) X (by decide +kernel) 2 rfl ?_
      obtain ⟨h5, e4, E⟩ := bp_E E
      refine g_callS0 (st := []) X [.ref (x0 + 3), .int (1 : Int32), .int x1, .int x2] (by decide +kernel) ml11_177 (by decide) (Nat.le_of_ble_eq_true rfl) (c11_copyRow hK (x0 + 3) 4 (1 : Int32) x1 x2 h3 (ly hK px0 fl11_17 rfl) e4) ?_
      refine g_aload_n (n := 0) X (by decide +kernel) 0 rfl ?_
      refine g_getS X (by decide +kernel) fl11_20 px0 ?_
      refine g_iconst (n := 1) (x := (1 : Int32)) X (by decide +kernel) (by decide) ?_
      refine g_iload_n (n := 1) X (by decide +kernel) 1 rfl ?_
      refine g_iload_n (n := 2) X (by decide +kernel) 2 rfl ?_
      obtain ⟨h7, e6, E⟩ := bp_E E
      refine g_callS0 (st := []) X [.ref (x0 + 4), .int (1 : Int32), .int x1, .int x2] (by decide +kernel) ml11_177 (by decide) (Nat.le_of_ble_eq_true rfl) (c11_copyRow hK (x0 + 4) 4 (1 : Int32) x1 x2 h5 (ly hK px0 fl11_20 rfl) e6) ?_
      refine g_aload_n (n := 0) X (by decide +kernel) 0 rfl ?_
      refine g_getS X (by decide +kernel) fl11_23 px0 ?_
      refine g_iconst (n := 3) (x := (3 : Int32)) X (by decide +kernel) (by decide) ?_
      refine g_iload_n (n := 1) X (by decide +kernel) 1 rfl ?_
      refine g_iload_n (n := 2) X (by decide +kernel) 2 rfl ?_
      obtain ⟨h9, e8, E⟩ := bp_E E
      refine g_callS0 (st := []) X [.ref (x0 + 5), .int (3 : Int32), .int x1, .int x2] (by decide +kernel) ml11_177 (by decide) (Nat.le_of_ble_eq_true rfl) (c11_copyRow hK (x0 + 5) 12 (3 : Int32) x1 x2 h7 (ly hK px0 fl11_23 rfl) e8) ?_
      refine g_aload_n (n := 0) X (by decide +kernel) 0 rfl ?_
      refine g_getS X (by decide +kernel) fl11_26 px0 ?_
      refine g_sipush (n := 244) (x := (244 : Int32)) X (by decide +kernel) (by decide) ?_
      refine g_iload_n (n := 1) X (by decide +kernel) 1 rfl ?_
      refine g_iload_n (n := 2) X (by decide +kernel) 2 rfl ?_
      obtain ⟨h11, e10, E⟩ := bp_E E
      refine g_callS0 (st := []) X [.ref (x0 + 6), .int (244 : Int32), .int x1, .int x2] (by decide +kernel) ml11_177 (by decide) (Nat.le_of_ble_eq_true rfl) (c11_copyRow hK (x0 + 6) 976 (244 : Int32) x1 x2 h9 (ly hK px0 fl11_26 rfl) e10) ?_
      refine g_aload_n (n := 0) X (by decide +kernel) 0 rfl ?_
      refine g_getS X (by decide +kernel) fl11_29 px0 ?_
      refine g_sipush (n := 242) (x := (242 : Int32)) X (by decide +kernel) (by decide) ?_
      refine g_iload_n (n := 1) X (by decide +kernel) 1 rfl ?_
      refine g_iload_n (n := 2) X (by decide +kernel) 2 rfl ?_
      obtain ⟨h13, e12, E⟩ := bp_E E
      refine g_callS0 (st := []) X [.ref (x0 + 7), .int (242 : Int32), .int x1, .int x2] (by decide +kernel) ml11_177 (by decide) (Nat.le_of_ble_eq_true rfl) (c11_copyRow hK (x0 + 7) 968 (242 : Int32) x1 x2 h11 (ly hK px0 fl11_29 rfl) e12) ?_
      refine g_aload_n (n := 0) X (by decide +kernel) 0 rfl ?_
      refine g_getS X (by decide +kernel) fl11_32 px0 ?_
      refine g_bipush (n := 34) (x := (34 : Int32)) X (by decide +kernel) (by decide) ?_
      refine g_iload_n (n := 1) X (by decide +kernel) 1 rfl ?_
      refine g_iload_n (n := 2) X (by decide +kernel) 2 rfl ?_
      obtain ⟨h15, e14, E⟩ := bp_E E
      refine g_callS0 (st := []) X [.ref (x0 + 8), .int (34 : Int32), .int x1, .int x2] (by decide +kernel) ml11_177 (by decide) (Nat.le_of_ble_eq_true rfl) (c11_copyRow hK (x0 + 8) 136 (34 : Int32) x1 x2 h13 (ly hK px0 fl11_32 rfl) e14) ?_
      obtain rfl := Option.some.inj E
      exact g_return X (by decide +kernel)
    · refine g_icmp_ge_f (off := 33) (tgt := 39) X (by decide +kernel) (by decide) c1 ?_
      refine g_aload_n (n := 0) X (by decide +kernel) 0 rfl ?_
      refine g_getS X (by decide +kernel) fl11_7 px0 ?_
      refine g_sipush (n := 600) (x := (600 : Int32)) X (by decide +kernel) (by decide) ?_
      refine g_iload_n (n := 2) X (by decide +kernel) 2 rfl ?_
      refine g_imul X (by decide +kernel) ?_
      refine g_iload_n (n := 3) X (by decide +kernel) 3 rfl ?_
      refine g_iadd X (by decide +kernel) ?_
      refine g_aload_n (n := 0) X (by decide +kernel) 0 rfl ?_
      refine g_getS X (by decide +kernel) fl11_7 px0 ?_
      refine g_sipush (n := 600) (x := (600 : Int32)) X (by decide +kernel) (by decide) ?_
      refine g_iload_n (n := 1) X (by decide +kernel) 1 rfl ?_
      refine g_imul X (by decide +kernel) ?_
      refine g_iload_n (n := 3) X (by decide +kernel) 3 rfl ?_
      refine g_iadd X (by decide +kernel) ?_
      obtain ⟨c16, E⟩ := gd_E E
      refine g_bald X (by decide +kernel) (ly hK px0 fl11_7 rfl) c16 ?_
      obtain ⟨c17, E⟩ := gd_E E
      obtain ⟨h18, eh18, E⟩ := lt_E E
      refine g_bast X (by decide +kernel) (ly hK px0 fl11_7 rfl) c17 eh18 ?_
      obtain ⟨x3_19, ex3_19, E⟩ := lt_E E
      refine s_iinc (i := 3) (n := 1) (y := x3_19) X (by decide +kernel) 3 rfl (by decide) ex3_19 (ls_next (by decide) (Or.inr rfl) (ls_next (by decide) (Or.inr rfl) (ls_next (by decide) (Or.inr rfl) (ls_here ls_end)))) ?_
      refine g_goto (off := -34) (tgt := 2) X (by decide +kernel) (by decide) ?_
      exact ih x3_19 h18  E
set_option maxHeartbeats 4000000 in
set_option maxRecDepth 20000 in
theorem c11_copyAll {sp : Sp} {K : Ly} {sz n : Nat} (hK : LyOk K) (o : Nat) (a1 : Int32) (a2 : Int32) (h : Hp) (ho : K o = some (.inl 11)) {hf : Hp} (E : f11_copyAll K n o a1 a2 h = some hf) : Con sp y11_copyAll prog_13_method_9_code 4 none 2 0 0 [.ref o, .int a1, .int a2] sz K h none sz K hf := by
  refine Con.of (by decide) (Nat.le_of_ble_eq_true rfl) (fun Γ X _ => ?_)
  show Go Γ (0, 0) 0 [(0, .ref o), (1, .int a1), (2, .int a2)] [] sz K h
  unfold f11_copyAll at E
  refine g_iconst (n := 0) (x := (0 : Int32)) X (by decide +kernel) (by decide) ?_
  refine s_istore_n (n := 3) (i := 3) X (by decide +kernel) rfl (by decide) rfl (ls_next (by decide) (Or.inr rfl) (ls_next (by decide) (Or.inr rfl) (ls_next (by decide) (Or.inr rfl) (ls_ins ls_end)))) ?_
  exact w11_copyAll_L2 X hK o a1 a2 ho n (0 : Int32) h E
-- AskedNamesModel.is
def f11_is (K : Ly) (n : Nat) (o : Nat) (a1 : Int32) (a2 : Int32) (h : Hp) : Option (Int32) :=
    gd (inb a1 12) <|
    gd (isB (f11_in a2 (0 : Int32) ((h.1 (o + 5) a1.toNatClampNeg) - (1 : Int32)))) <|
    some (f11_in a2 (0 : Int32) ((h.1 (o + 5) a1.toNatClampNeg) - (1 : Int32)))
set_option maxHeartbeats 4000000 in
set_option maxRecDepth 20000 in
theorem c11_is {sp : Sp} {K : Ly} {sz n : Nat} (hK : LyOk K) (o : Nat) (a1 : Int32) (a2 : Int32) (h : Hp) (ho : K o = some (.inl 11)) {v : Int32} (E : f11_is K n o a1 a2 h = some v) : Con sp y11_is prog_13_method_10_code 3 (some (.boolean)) 2 0 0 [.ref o, .int a1, .int a2] sz K h (some (.int v)) sz K h := by
  refine Con.of (by decide) (Nat.le_of_ble_eq_true rfl) (fun Γ X _ => ?_)
  show Go Γ (0, 0) 0 [(0, .ref o), (1, .int a1), (2, .int a2)] [] sz K h
  unfold f11_is at E
  refine g_iload_n (n := 2) X (by decide +kernel) 2 rfl ?_
  refine g_iconst (n := 0) (x := (0 : Int32)) X (by decide +kernel) (by decide) ?_
  refine g_aload_n (n := 0) X (by decide +kernel) 0 rfl ?_
  refine g_getS X (by decide +kernel) fl11_23 ho ?_
  refine g_iload_n (n := 1) X (by decide +kernel) 1 rfl ?_
  obtain ⟨c1, E⟩ := gd_E E
  refine g_iald X (by decide +kernel) (ly hK ho fl11_23 rfl) c1 ?_
  refine g_iconst (n := 1) (x := (1 : Int32)) X (by decide +kernel) (by decide) ?_
  refine g_isub X (by decide +kernel) ?_
  refine g_callS1 (st := []) X [.int a2, .int (0 : Int32), .int ((h.1 (o + 5) a1.toNatClampNeg) - (1 : Int32))] (by decide +kernel) ml11_181 (by decide) (Nat.le_of_ble_eq_true rfl) (c11_in hK a2 (0 : Int32) ((h.1 (o + 5) a1.toNatClampNeg) - (1 : Int32)) h ) ?_
  obtain ⟨c2, E⟩ := gd_E E
  obtain rfl := Option.some.inj E
  exact g_zreturn X (by decide +kernel) (isB_n c2)
-- AskedNamesModel.four
def f11_four_L3 (K : Ly) (n : Nat) (x0 : Nat) (x1 : Int32)   : Nat → Int32 → Hp → Option Hp
  | 0, _, _ => none
  | k + 1, x2, h =>
    if x2 < 0 then (
    some h)
    else (
    gd (inb (h.1 (x0 + 2) (0 : Int32).toNatClampNeg) 2400) <|
    lt (sI h (x0 + 1) (h.1 (x0 + 2) (0 : Int32).toNatClampNeg).toNatClampNeg ((x1 >>> (x2 &&& 31)).toInt8.toInt32).toInt8.toInt32) fun h3 =>
    lt (sI h3 (x0 + 2) (0 : Int32).toNatClampNeg ((h3.1 (x0 + 2) (0 : Int32).toNatClampNeg) + (1 : Int32))) fun h4 =>
    lt (x2 + (-8 : Int32)) fun x2_5 =>
    f11_four_L3 K n x0 x1  k x2_5 h4)
def f11_four (K : Ly) (n : Nat) (o : Nat) (a1 : Int32) (h : Hp) : Option Hp :=
    f11_four_L3 K n o a1 n (24 : Int32) h
set_option maxHeartbeats 4000000 in
set_option maxRecDepth 20000 in
theorem w11_four_L3 {Γ : CT} {sp : Sp} {K : Ly} {sz n : Nat} {hf : Hp}  (X : Ok Γ sp prog_13_method_12_code Rc11 3 none 1 none sz K hf) (hK : LyOk K) (x0 : Nat) (x1 : Int32)  (px0 : K x0 = some (.inl 11))  : ∀ (k : Nat) (x2 : Int32) (h : Hp), f11_four_L3 K n x0 x1  k x2 h = some hf → Go Γ (0, 0) 3 [(0, .ref x0), (1, .int x1), (2, .int x2)] [] sz K h := by
  intro k
  induction k with
  | zero => intro x2 h E; cases E
  | succ k ih =>
    intro x2 h E
    unfold f11_four_L3 at E
    refine g_iload_n (n := 2) X (by decide +kernel) 2 rfl ?_
    rcases it_E E with ⟨c1, E⟩ | ⟨c1, E⟩
    · refine g_if_lt_t (off := 34) (tgt := 38) X (by decide +kernel) (by decide) c1 ?_
      obtain rfl := Option.some.inj E
      exact g_return X (by decide +kernel)
    · refine g_if_lt_f (off := 34) (tgt := 38) X (by decide +kernel) (by decide) c1 ?_
      refine g_aload_n (n := 0) X (by decide +kernel) 0 rfl ?_
      refine g_getS X (by decide +kernel) fl11_7 px0 ?_
      refine g_aload_n (n := 0) X (by decide +kernel) 0 rfl ?_
      refine g_getS X (by decide +kernel) fl11_13 px0 ?_
      refine g_iconst (n := 0) (x := (0 : Int32)) X (by decide +kernel) (by decide) ?_
      refine g_iald X (by decide +kernel) (ly hK px0 fl11_13 rfl) (by decide) ?_
      refine g_iload_n (n := 1) X (by decide +kernel) 1 rfl ?_
      refine g_iload_n (n := 2) X (by decide +kernel) 2 rfl ?_
      refine g_ishr X (by decide +kernel) ?_
      refine g_i2b X (by decide +kernel) ?_
      obtain ⟨c2, E⟩ := gd_E E
      obtain ⟨h3, eh3, E⟩ := lt_E E
      refine g_bast X (by decide +kernel) (ly hK px0 fl11_7 rfl) c2 eh3 ?_
      refine g_aload_n (n := 0) X (by decide +kernel) 0 rfl ?_
      refine g_getS X (by decide +kernel) fl11_13 px0 ?_
      refine g_iconst (n := 0) (x := (0 : Int32)) X (by decide +kernel) (by decide) ?_
      refine g_dup2 X (by decide +kernel) rfl rfl ?_
      refine g_iald X (by decide +kernel) (ly hK px0 fl11_13 rfl) (by decide) ?_
      refine g_iconst (n := 1) (x := (1 : Int32)) X (by decide +kernel) (by decide) ?_
      refine g_iadd X (by decide +kernel) ?_
      obtain ⟨h4, eh4, E⟩ := lt_E E
      refine g_iast X (by decide +kernel) (ly hK px0 fl11_13 rfl) (by decide) eh4 ?_
      obtain ⟨x2_5, ex2_5, E⟩ := lt_E E
      refine s_iinc (i := 2) (n := -8) (y := x2_5) X (by decide +kernel) 2 rfl (by decide) (by rw [show Int32.ofInt (-8) = (-8 : Int32) from by decide]; exact ex2_5) (ls_next (by decide) (Or.inr rfl) (ls_next (by decide) (Or.inr rfl) (ls_here ls_end))) ?_
      refine g_goto (off := -32) (tgt := 3) X (by decide +kernel) (by decide) ?_
      exact ih x2_5 h4  E
set_option maxHeartbeats 4000000 in
set_option maxRecDepth 20000 in
theorem c11_four {sp : Sp} {K : Ly} {sz n : Nat} (hK : LyOk K) (o : Nat) (a1 : Int32) (h : Hp) (ho : K o = some (.inl 11)) {hf : Hp} (E : f11_four K n o a1 h = some hf) : Con sp y11_four prog_13_method_12_code 3 none 1 0 0 [.ref o, .int a1] sz K h none sz K hf := by
  refine Con.of (by decide) (Nat.le_of_ble_eq_true rfl) (fun Γ X _ => ?_)
  show Go Γ (0, 0) 0 [(0, .ref o), (1, .int a1)] [] sz K h
  unfold f11_four at E
  refine g_bipush (n := 24) (x := (24 : Int32)) X (by decide +kernel) (by decide) ?_
  refine s_istore_n (n := 2) (i := 2) X (by decide +kernel) rfl (by decide) rfl (ls_next (by decide) (Or.inr rfl) (ls_next (by decide) (Or.inr rfl) (ls_ins ls_end))) ?_
  exact w11_four_L3 X hK o a1 ho n (24 : Int32) h E
-- AskedNamesModel.feed
def f11_feed (K : Ly) (n : Nat) (o : Nat) (a1 : Int32) (a2 : Int32) (a3 : Int32) (a4 : Int32) (a5 : Int32) (h : Hp) : Option (Int32 × Hp) :=
    lt (sI h o 0 (0 : Int32)) fun h1 =>
    if ((h1.1 (o + 2) (0 : Int32).toNatClampNeg) + (20 : Int32)) ≤ (600 : Int32) then (
    bp (f11_four K n o a1 h1) fun h4 =>
    bp (f11_four K n o a2 h4) fun h6 =>
    bp (f11_four K n o a3 h6) fun h8 =>
    bp (f11_four K n o a4 h8) fun h10 =>
    bp (f11_four K n o a5 h10) fun h12 =>
    some ((h12.1 (o + 2) (0 : Int32).toNatClampNeg), h12))
    else (
    some ((-1 : Int32), h1))
set_option maxHeartbeats 4000000 in
set_option maxRecDepth 20000 in
theorem c11_feed {sp : Sp} {K : Ly} {sz n : Nat} (hK : LyOk K) (o : Nat) (a1 : Int32) (a2 : Int32) (a3 : Int32) (a4 : Int32) (a5 : Int32) (h : Hp) (ho : K o = some (.inl 11)) {v : Int32} {hf : Hp} (E : f11_feed K n o a1 a2 a3 a4 a5 h = some (v, hf)) : Con sp y11_feed prog_13_method_11_code 6 (some (.int)) 2 0 0 [.ref o, .int a1, .int a2, .int a3, .int a4, .int a5] sz K h (some (.int v)) sz K hf := by
  refine Con.of (by decide) (Nat.le_of_ble_eq_true rfl) (fun Γ X _ => ?_)
  show Go Γ (0, 0) 0 [(0, .ref o), (1, .int a1), (2, .int a2), (3, .int a3), (4, .int a4), (5, .int a5)] [] sz K h
  unfold f11_feed at E
  refine g_aload_n (n := 0) X (by decide +kernel) 0 rfl ?_
  refine g_iconst (n := 0) (x := (0 : Int32)) X (by decide +kernel) (by decide) ?_
  obtain ⟨h1, eh1, E⟩ := lt_E E
  refine g_putI X (by decide +kernel) fp11_169 ho eh1 ?_
  refine g_aload_n (n := 0) X (by decide +kernel) 0 rfl ?_
  refine g_getS X (by decide +kernel) fl11_13 ho ?_
  refine g_iconst (n := 0) (x := (0 : Int32)) X (by decide +kernel) (by decide) ?_
  refine g_iald X (by decide +kernel) (ly hK ho fl11_13 rfl) (by decide) ?_
  refine g_bipush (n := 20) (x := (20 : Int32)) X (by decide +kernel) (by decide) ?_
  refine g_iadd X (by decide +kernel) ?_
  refine g_sipush (n := 600) (x := (600 : Int32)) X (by decide +kernel) (by decide) ?_
  rcases it_E E with ⟨c2, E⟩ | ⟨c2, E⟩
  · refine g_icmp_le_t (off := 5) (tgt := 22) X (by decide +kernel) (by decide) c2 ?_
    refine g_aload_n (n := 0) X (by decide +kernel) 0 rfl ?_
    refine g_iload_n (n := 1) X (by decide +kernel) 1 rfl ?_
    obtain ⟨h4, e3, E⟩ := bp_E E
    refine g_callV0 (st := []) X [.int a1] (by decide +kernel) ml11_185 ho rfl rfl (by decide) (Nat.le_of_ble_eq_true rfl) (c11_four hK o a1 h1 ho e3) ?_
    refine g_aload_n (n := 0) X (by decide +kernel) 0 rfl ?_
    refine g_iload_n (n := 2) X (by decide +kernel) 2 rfl ?_
    obtain ⟨h6, e5, E⟩ := bp_E E
    refine g_callV0 (st := []) X [.int a2] (by decide +kernel) ml11_185 ho rfl rfl (by decide) (Nat.le_of_ble_eq_true rfl) (c11_four hK o a2 h4 ho e5) ?_
    refine g_aload_n (n := 0) X (by decide +kernel) 0 rfl ?_
    refine g_iload_n (n := 3) X (by decide +kernel) 3 rfl ?_
    obtain ⟨h8, e7, E⟩ := bp_E E
    refine g_callV0 (st := []) X [.int a3] (by decide +kernel) ml11_185 ho rfl rfl (by decide) (Nat.le_of_ble_eq_true rfl) (c11_four hK o a3 h6 ho e7) ?_
    refine g_aload_n (n := 0) X (by decide +kernel) 0 rfl ?_
    refine g_iload (n := 4) X (by decide +kernel) 4 rfl ?_
    obtain ⟨h10, e9, E⟩ := bp_E E
    refine g_callV0 (st := []) X [.int a4] (by decide +kernel) ml11_185 ho rfl rfl (by decide) (Nat.le_of_ble_eq_true rfl) (c11_four hK o a4 h8 ho e9) ?_
    refine g_aload_n (n := 0) X (by decide +kernel) 0 rfl ?_
    refine g_iload (n := 5) X (by decide +kernel) 5 rfl ?_
    obtain ⟨h12, e11, E⟩ := bp_E E
    refine g_callV0 (st := []) X [.int a5] (by decide +kernel) ml11_185 ho rfl rfl (by decide) (Nat.le_of_ble_eq_true rfl) (c11_four hK o a5 h10 ho e11) ?_
    refine g_aload_n (n := 0) X (by decide +kernel) 0 rfl ?_
    refine g_getS X (by decide +kernel) fl11_13 ho ?_
    refine g_iconst (n := 0) (x := (0 : Int32)) X (by decide +kernel) (by decide) ?_
    refine g_iald X (by decide +kernel) (ly hK ho fl11_13 rfl) (by decide) ?_
    obtain ⟨rfl, rfl⟩ := rt_E E
    exact g_ireturn X (by decide +kernel)
  · refine g_icmp_le_f (off := 5) (tgt := 22) X (by decide +kernel) (by decide) c2 ?_
    refine g_iconst (n := -1) (x := (-1 : Int32)) X (by decide +kernel) (by decide) ?_
    obtain ⟨rfl, rfl⟩ := rt_E E
    exact g_ireturn X (by decide +kernel)
-- AskedNamesModel.end
def f11_end (K : Ly) (n : Nat) (o : Nat) (a1 : Int32) (h : Hp) : Option (Int32 × Hp) :=
    lt (sI h o 0 (0 : Int32)) fun h1 =>
    if (f11_in a1 (0 : Int32) (h1.1 (o + 2) (0 : Int32).toNatClampNeg)) = 0 then (
    some ((-1 : Int32), h1))
    else (
    lt (sI h1 (o + 2) (0 : Int32).toNatClampNeg a1) fun h3 =>
    some (a1, h3))
set_option maxHeartbeats 4000000 in
set_option maxRecDepth 20000 in
theorem c11_end {sp : Sp} {K : Ly} {sz n : Nat} (hK : LyOk K) (o : Nat) (a1 : Int32) (h : Hp) (ho : K o = some (.inl 11)) {v : Int32} {hf : Hp} (E : f11_end K n o a1 h = some (v, hf)) : Con sp y11_end prog_13_method_13_code 2 (some (.int)) 2 0 0 [.ref o, .int a1] sz K h (some (.int v)) sz K hf := by
  refine Con.of (by decide) (Nat.le_of_ble_eq_true rfl) (fun Γ X _ => ?_)
  show Go Γ (0, 0) 0 [(0, .ref o), (1, .int a1)] [] sz K h
  unfold f11_end at E
  refine g_aload_n (n := 0) X (by decide +kernel) 0 rfl ?_
  refine g_iconst (n := 0) (x := (0 : Int32)) X (by decide +kernel) (by decide) ?_
  obtain ⟨h1, eh1, E⟩ := lt_E E
  refine g_putI X (by decide +kernel) fp11_169 ho eh1 ?_
  refine g_iload_n (n := 1) X (by decide +kernel) 1 rfl ?_
  refine g_iconst (n := 0) (x := (0 : Int32)) X (by decide +kernel) (by decide) ?_
  refine g_aload_n (n := 0) X (by decide +kernel) 0 rfl ?_
  refine g_getS X (by decide +kernel) fl11_13 ho ?_
  refine g_iconst (n := 0) (x := (0 : Int32)) X (by decide +kernel) (by decide) ?_
  refine g_iald X (by decide +kernel) (ly hK ho fl11_13 rfl) (by decide) ?_
  refine g_callS1 (st := []) X [.int a1, .int (0 : Int32), .int (h1.1 (o + 2) (0 : Int32).toNatClampNeg)] (by decide +kernel) ml11_181 (by decide) (Nat.le_of_ble_eq_true rfl) (c11_in hK a1 (0 : Int32) (h1.1 (o + 2) (0 : Int32).toNatClampNeg) h1 ) ?_
  rcases it_E E with ⟨c2, E⟩ | ⟨c2, E⟩
  · refine g_if_ne_f (off := 5) (tgt := 21) X (by decide +kernel) (by decide) (fun z => z c2) ?_
    refine g_iconst (n := -1) (x := (-1 : Int32)) X (by decide +kernel) (by decide) ?_
    obtain ⟨rfl, rfl⟩ := rt_E E
    exact g_ireturn X (by decide +kernel)
  · refine g_if_ne_t (off := 5) (tgt := 21) X (by decide +kernel) (by decide) c2 ?_
    refine g_aload_n (n := 0) X (by decide +kernel) 0 rfl ?_
    refine g_getS X (by decide +kernel) fl11_13 ho ?_
    refine g_iconst (n := 0) (x := (0 : Int32)) X (by decide +kernel) (by decide) ?_
    refine g_iload_n (n := 1) X (by decide +kernel) 1 rfl ?_
    obtain ⟨h3, eh3, E⟩ := lt_E E
    refine g_iast X (by decide +kernel) (ly hK ho fl11_13 rfl) (by decide) eh3 ?_
    refine g_iload_n (n := 1) X (by decide +kernel) 1 rfl ?_
    obtain ⟨rfl, rfl⟩ := rt_E E
    exact g_ireturn X (by decide +kernel)
-- AskedNamesModel.see
def f11_see (K : Ly) (n : Nat) (o : Nat) (h : Hp) : Option (Int32) :=
    if (h.1 o 10) ≤ (h.1 o 9) then (
    some (-1 : Int32))
    else (
    gd (inb (h.1 o 9) 2400) <|
    some ((h.1 (o + 1) (h.1 o 9).toNatClampNeg) &&& (255 : Int32)))
set_option maxHeartbeats 4000000 in
set_option maxRecDepth 20000 in
theorem c11_see {sp : Sp} {K : Ly} {sz n : Nat} (hK : LyOk K) (o : Nat) (h : Hp) (ho : K o = some (.inl 11)) {v : Int32} (E : f11_see K n o h = some v) : Con sp y11_see prog_13_method_14_code 1 (some (.int)) 1 0 0 [.ref o] sz K h (some (.int v)) sz K h := by
  refine Con.of (by decide) (Nat.le_of_ble_eq_true rfl) (fun Γ X _ => ?_)
  show Go Γ (0, 0) 0 [(0, .ref o)] [] sz K h
  unfold f11_see at E
  refine g_aload_n (n := 0) X (by decide +kernel) 0 rfl ?_
  refine g_getI X (by decide +kernel) fl11_189 ho ?_
  refine g_aload_n (n := 0) X (by decide +kernel) 0 rfl ?_
  refine g_getI X (by decide +kernel) fl11_192 ho ?_
  rcases it_E E with ⟨c1, E⟩ | ⟨c1, E⟩
  · refine g_icmp_ge_t (off := 19) (tgt := 27) X (by decide +kernel) (by decide) c1 ?_
    refine g_iconst (n := -1) (x := (-1 : Int32)) X (by decide +kernel) (by decide) ?_
    obtain rfl := Option.some.inj E
    exact g_ireturn X (by decide +kernel)
  · refine g_icmp_ge_f (off := 19) (tgt := 27) X (by decide +kernel) (by decide) c1 ?_
    refine g_aload_n (n := 0) X (by decide +kernel) 0 rfl ?_
    refine g_getS X (by decide +kernel) fl11_7 ho ?_
    refine g_aload_n (n := 0) X (by decide +kernel) 0 rfl ?_
    refine g_getI X (by decide +kernel) fl11_189 ho ?_
    obtain ⟨c2, E⟩ := gd_E E
    refine g_bald X (by decide +kernel) (ly hK ho fl11_7 rfl) c2 ?_
    refine g_sipush (n := 255) (x := (255 : Int32)) X (by decide +kernel) (by decide) ?_
    refine g_iand X (by decide +kernel) ?_
    refine g_goto (off := 4) (tgt := 28) X (by decide +kernel) (by decide) ?_
    obtain rfl := Option.some.inj E
    exact g_ireturn X (by decide +kernel)
-- AskedNamesModel.token
def f11_token_J18 (K : Ly) (n : Nat) (r0 : Hp → Option Hp) (x0 : Nat) (h : Hp) : Option Hp :=
    lt (sI h x0 9 ((h.1 x0 9) + (1 : Int32))) fun h18 =>
    r0  h18
def f11_token_J136 (K : Ly) (n : Nat)  (x0 : Nat) (s0 : Nat) (s1 : Int64) (h : Hp) : Option Hp :=
    lt (sL h s0 14 s1) fun h40 =>
    lt (sI h40 x0 12 (2 : Int32)) fun h41 =>
    some h41
def f11_token_L74 (K : Ly) (n : Nat) (x0 : Nat)   : Nat → Int32 → Hp → Option Hp
  | 0, _, _ => none
  | k + 1, x2, h =>
    bp (f11_see K n x0 h) fun y28 =>
    if (f11_in y28 (97 : Int32) (122 : Int32)) = 0 then (
    f11_token_J136 K n x0 x0 (if x2 ≤ (8 : Int32) then (h.2.1 x0 14) else (0 : Int64)) h)
    else (
    bp (f11_see K n x0 h) fun y32 =>
    lt (sL h x0 14 (((h.2.1 x0 14) <<< ((8 : Int32).toInt64 &&& 63)) ||| (y32.toInt64))) fun h33 =>
    lt (sI h33 x0 9 ((h33.1 x0 9) + (1 : Int32))) fun h34 =>
    lt (x2 + (1 : Int32)) fun x2_35 =>
    f11_token_L74 K n x0  k x2_35 h34)
def f11_token_J205 (K : Ly) (n : Nat) (r163 : Int32 → Hp → Option Hp) (x0 : Nat) (x2 : Int32) (s0 : Nat) (s1 : Int32) (h : Hp) : Option Hp :=
    lt (sI h s0 13 s1) fun h37 =>
    lt (sI h37 x0 9 ((h37.1 x0 9) + (1 : Int32))) fun h38 =>
    lt (x2 + (1 : Int32)) fun x2_39 =>
    r163 x2_39 h38
def f11_token_J235 (K : Ly) (n : Nat)  (s0 : Nat) (s1 : Int32) (h : Hp) : Option Hp :=
    lt (sI h s0 12 s1) fun h36 =>
    some h36
def f11_token_L163 (K : Ly) (n : Nat) (x0 : Nat)   : Nat → Int32 → Hp → Option Hp
  | 0, _, _ => none
  | k + 1, x2, h =>
    bp (f11_see K n x0 h) fun y21 =>
    if (f11_in y21 (48 : Int32) (57 : Int32)) = 0 then (
    f11_token_J235 K n x0 (if x2 ≤ (2 : Int32) then (3 : Int32) else (1 : Int32)) h)
    else (
    if (2 : Int32) ≤ x2 then (
    f11_token_J205 K n (f11_token_L163 K n x0  k) x0 x2 x0 (h.1 x0 13) h)
    else (
    bp (f11_see K n x0 h) fun y26 =>
    f11_token_J205 K n (f11_token_L163 K n x0  k) x0 x2 x0 ((((10 : Int32) * (h.1 x0 13)) + y26) - (48 : Int32)) h))
def f11_token_J263 (K : Ly) (n : Nat)  (s0 : Nat) (s1 : Int32) (h : Hp) : Option Hp :=
    lt (sI h s0 12 s1) fun h19 =>
    some h19
def f11_token_L0 (K : Ly) (n : Nat) (x0 : Nat)   : Nat → Hp → Option Hp
  | 0, _ => none
  | k + 1, h =>
    bp (f11_see K n x0 h) fun y2 =>
    if y2 = (10 : Int32) then (
    f11_token_J18 K n (f11_token_L0 K n x0  k) x0 h)
    else (
    bp (f11_see K n x0 h) fun y5 =>
    if y5 = (32 : Int32) then (
    f11_token_J18 K n (f11_token_L0 K n x0  k) x0 h)
    else (
    lt (sI h x0 11 (h.1 x0 9)) fun h7 =>
    bp (f11_see K n x0 h7) fun y9 =>
    lt (sL h7 x0 14 (0 : Int64)) fun h10 =>
    if 0 ≤ y9 then (
    if (f11_in y9 (97 : Int32) (122 : Int32)) = 0 then (
    if (f11_in y9 (48 : Int32) (57 : Int32)) = 0 then (
    lt (sI h10 x0 9 ((h10.1 x0 9) + (1 : Int32))) fun h14 =>
    f11_token_J263 K n x0 (if y9 = (59 : Int32) then (4 : Int32) else (1 : Int32)) h14)
    else (
    lt (sI h10 x0 13 (0 : Int32)) fun h16 =>
    f11_token_L163 K n x0 n (0 : Int32) h16))
    else (
    f11_token_L74 K n x0 n (0 : Int32) h10))
    else (
    lt (sI h10 x0 12 (0 : Int32)) fun h17 =>
    some h17)))
def f11_token (K : Ly) (n : Nat) (o : Nat) (h : Hp) : Option Hp :=
    f11_token_L0 K n o n h
set_option maxHeartbeats 4000000 in
set_option maxRecDepth 20000 in
theorem w11_token_J18 {Γ : CT} {sp : Sp} {K : Ly} {sz n : Nat} {hf : Hp}  {r0 : Hp → Option Hp}  (X : Ok Γ sp prog_13_method_15_code Rc11 3 none 2 none sz K hf) (hK : LyOk K) (x0 : Nat) (h : Hp) (hr0 : ∀ (h : Hp), r0  h = some hf → Go Γ (0, 0) 0 [(0, .ref x0)] [] sz K h) (px0 : K x0 = some (.inl 11)) (E : f11_token_J18 K n r0 x0 h = some hf) : Go Γ (0, 0) 18 [(0, .ref x0)] [] sz K h := by
  unfold f11_token_J18 at E
  refine g_aload_n (n := 0) X (by decide +kernel) 0 rfl ?_
  refine g_dup X (by decide +kernel) rfl ?_
  refine g_getI X (by decide +kernel) fl11_189 px0 ?_
  refine g_iconst (n := 1) (x := (1 : Int32)) X (by decide +kernel) (by decide) ?_
  refine g_iadd X (by decide +kernel) ?_
  obtain ⟨h18, eh18, E⟩ := lt_E E
  refine g_putI X (by decide +kernel) fp11_189 px0 eh18 ?_
  refine g_goto (off := -28) (tgt := 0) X (by decide +kernel) (by decide) ?_
  exact hr0 h18  E
set_option maxHeartbeats 4000000 in
set_option maxRecDepth 20000 in
theorem w11_token_J136 {Γ : CT} {sp : Sp} {K : Ly} {sz n : Nat} {hf : Hp}   (X : Ok Γ sp prog_13_method_15_code Rc11 3 none 2 none sz K hf) (hK : LyOk K) (x0 : Nat) (s0 : Nat) (s1 : Int64) (h : Hp)  (px0 : K x0 = some (.inl 11)) (ps0 : K s0 = some (.inl 11)) (E : f11_token_J136 K n x0 s0 s1 h = some hf) : Go Γ (0, 0) 136 [(0, .ref x0)] [.long s1, .ref s0] sz K h := by
  unfold f11_token_J136 at E
  obtain ⟨h40, eh40, E⟩ := lt_E E
  refine g_putL X (by decide +kernel) fp11_202 ps0 eh40 ?_
  refine g_aload_n (n := 0) X (by decide +kernel) 0 rfl ?_
  refine g_iconst (n := 2) (x := (2 : Int32)) X (by decide +kernel) (by decide) ?_
  obtain ⟨h41, eh41, E⟩ := lt_E E
  refine g_putI X (by decide +kernel) fp11_206 px0 eh41 ?_
  refine g_goto (off := 122) (tgt := 266) X (by decide +kernel) (by decide) ?_
  obtain rfl := Option.some.inj E
  exact g_return X (by decide +kernel)
set_option maxHeartbeats 4000000 in
set_option maxRecDepth 20000 in
theorem w11_token_L74 {Γ : CT} {sp : Sp} {K : Ly} {sz n : Nat} {hf : Hp}  (X : Ok Γ sp prog_13_method_15_code Rc11 3 none 2 none sz K hf) (hK : LyOk K) (x0 : Nat)  (px0 : K x0 = some (.inl 11))  : ∀ (k : Nat) (x2 : Int32) (h : Hp), f11_token_L74 K n x0  k x2 h = some hf → Go Γ (0, 0) 74 [(0, .ref x0), (2, .int x2)] [] sz K h := by
  intro k
  induction k with
  | zero => intro x2 h E; cases E
  | succ k ih =>
    intro x2 h E
    unfold f11_token_L74 at E
    refine g_aload_n (n := 0) X (by decide +kernel) 0 rfl ?_
    obtain ⟨y28, e27, E⟩ := bp_E E
    refine g_callV1 (st := []) X [] (by decide +kernel) ml11_195 px0 rfl rfl (by decide) (Nat.le_of_ble_eq_true rfl) (c11_see hK x0 h px0 e27) ?_
    refine g_bipush (n := 97) (x := (97 : Int32)) X (by decide +kernel) (by decide) ?_
    refine g_bipush (n := 122) (x := (122 : Int32)) X (by decide +kernel) (by decide) ?_
    refine g_callS1 (st := []) X [.int y28, .int (97 : Int32), .int (122 : Int32)] (by decide +kernel) ml11_181 (by decide) (Nat.le_of_ble_eq_true rfl) (c11_in hK y28 (97 : Int32) (122 : Int32) h ) ?_
    rcases it_E E with ⟨c29, E⟩ | ⟨c29, E⟩
    · refine g_if_eq_t (off := 36) (tgt := 121) X (by decide +kernel) (by decide) c29 ?_
      refine g_aload_n (n := 0) X (by decide +kernel) 0 rfl ?_
      refine g_iload_n (n := 2) X (by decide +kernel) 1 rfl ?_
      refine g_bipush (n := 8) (x := (8 : Int32)) X (by decide +kernel) (by decide) ?_
      have hJ : Go Γ (0, 0) 136 [(0, .ref x0)] [.long (if x2 ≤ (8 : Int32) then (h.2.1 x0 14) else (0 : Int64)), .ref x0] sz K h := by
        exact w11_token_J136 X hK x0 x0 (if x2 ≤ (8 : Int32) then (h.2.1 x0 14) else (0 : Int64)) h px0 px0 E
      clear E
      by_cases c30 : x2 ≤ (8 : Int32)
      · rw [if_pos c30] at hJ
        refine g_icmp_le_t (off := 7) (tgt := 132) X (by decide +kernel) (by decide) c30 ?_
        refine g_aload_n (n := 0) X (by decide +kernel) 0 rfl ?_
        refine g_getL X (by decide +kernel) fl11_202 px0 ?_
        refine g_sub [0] rfl ?_
        exact hJ
      · rw [if_neg c30] at hJ
        refine g_icmp_le_f (off := 7) (tgt := 132) X (by decide +kernel) (by decide) c30 ?_
        refine g_lconst (n := 0) (x := (0 : Int64)) X (by decide +kernel) (by decide) ?_
        refine g_goto (off := 7) (tgt := 136) X (by decide +kernel) (by decide) ?_
        refine g_sub [0] rfl ?_
        exact hJ
    · refine g_if_eq_f (off := 36) (tgt := 121) X (by decide +kernel) (by decide) c29 ?_
      refine g_aload_n (n := 0) X (by decide +kernel) 0 rfl ?_
      refine g_aload_n (n := 0) X (by decide +kernel) 0 rfl ?_
      refine g_getL X (by decide +kernel) fl11_202 px0 ?_
      refine g_bipush (n := 8) (x := (8 : Int32)) X (by decide +kernel) (by decide) ?_
      refine g_lshl X (by decide +kernel) ?_
      refine g_aload_n (n := 0) X (by decide +kernel) 0 rfl ?_
      obtain ⟨y32, e31, E⟩ := bp_E E
      refine g_callV1 (st := [.long ((h.2.1 x0 14) <<< ((8 : Int32).toInt64 &&& 63)), .ref x0]) X [] (by decide +kernel) ml11_195 px0 rfl rfl (by decide) (Nat.le_of_ble_eq_true rfl) (c11_see hK x0 h px0 e31) ?_
      refine g_i2l X (by decide +kernel) ?_
      refine g_lor X (by decide +kernel) ?_
      obtain ⟨h33, eh33, E⟩ := lt_E E
      refine g_putL X (by decide +kernel) fp11_202 px0 eh33 ?_
      refine g_aload_n (n := 0) X (by decide +kernel) 0 rfl ?_
      refine g_dup X (by decide +kernel) rfl ?_
      refine g_getI X (by decide +kernel) fl11_189 px0 ?_
      refine g_iconst (n := 1) (x := (1 : Int32)) X (by decide +kernel) (by decide) ?_
      refine g_iadd X (by decide +kernel) ?_
      obtain ⟨h34, eh34, E⟩ := lt_E E
      refine g_putI X (by decide +kernel) fp11_189 px0 eh34 ?_
      obtain ⟨x2_35, ex2_35, E⟩ := lt_E E
      refine s_iinc (i := 2) (n := 1) (y := x2_35) X (by decide +kernel) 1 rfl (by decide) ex2_35 (ls_next (by decide) (Or.inr rfl) (ls_here ls_end)) ?_
      refine g_goto (off := -44) (tgt := 74) X (by decide +kernel) (by decide) ?_
      exact ih x2_35 h34  E
set_option maxHeartbeats 4000000 in
set_option maxRecDepth 20000 in
theorem w11_token_J205 {Γ : CT} {sp : Sp} {K : Ly} {sz n : Nat} {hf : Hp}  {r163 : Int32 → Hp → Option Hp}  (X : Ok Γ sp prog_13_method_15_code Rc11 3 none 2 none sz K hf) (hK : LyOk K) (x0 : Nat) (x2 : Int32) (s0 : Nat) (s1 : Int32) (h : Hp) (hr163 : ∀ (x2 : Int32) (h : Hp), r163 x2 h = some hf → Go Γ (0, 0) 163 [(0, .ref x0), (2, .int x2)] [] sz K h) (px0 : K x0 = some (.inl 11)) (ps0 : K s0 = some (.inl 11)) (E : f11_token_J205 K n r163 x0 x2 s0 s1 h = some hf) : Go Γ (0, 0) 205 [(0, .ref x0), (2, .int x2)] [.int s1, .ref s0] sz K h := by
  unfold f11_token_J205 at E
  obtain ⟨h37, eh37, E⟩ := lt_E E
  refine g_putI X (by decide +kernel) fp11_209 ps0 eh37 ?_
  refine g_aload_n (n := 0) X (by decide +kernel) 0 rfl ?_
  refine g_dup X (by decide +kernel) rfl ?_
  refine g_getI X (by decide +kernel) fl11_189 px0 ?_
  refine g_iconst (n := 1) (x := (1 : Int32)) X (by decide +kernel) (by decide) ?_
  refine g_iadd X (by decide +kernel) ?_
  obtain ⟨h38, eh38, E⟩ := lt_E E
  refine g_putI X (by decide +kernel) fp11_189 px0 eh38 ?_
  obtain ⟨x2_39, ex2_39, E⟩ := lt_E E
  refine s_iinc (i := 2) (n := 1) (y := x2_39) X (by decide +kernel) 1 rfl (by decide) ex2_39 (ls_next (by decide) (Or.inr rfl) (ls_here ls_end)) ?_
  refine g_goto (off := -58) (tgt := 163) X (by decide +kernel) (by decide) ?_
  exact hr163 x2_39 h38  E
set_option maxHeartbeats 4000000 in
set_option maxRecDepth 20000 in
theorem w11_token_J235 {Γ : CT} {sp : Sp} {K : Ly} {sz n : Nat} {hf : Hp}   (X : Ok Γ sp prog_13_method_15_code Rc11 3 none 2 none sz K hf) (hK : LyOk K) (s0 : Nat) (s1 : Int32) (h : Hp)  (ps0 : K s0 = some (.inl 11)) (E : f11_token_J235 K n s0 s1 h = some hf) : Go Γ (0, 0) 235 [] [.int s1, .ref s0] sz K h := by
  unfold f11_token_J235 at E
  obtain ⟨h36, eh36, E⟩ := lt_E E
  refine g_putI X (by decide +kernel) fp11_206 ps0 eh36 ?_
  refine g_goto (off := 28) (tgt := 266) X (by decide +kernel) (by decide) ?_
  obtain rfl := Option.some.inj E
  exact g_return X (by decide +kernel)
set_option maxHeartbeats 4000000 in
set_option maxRecDepth 20000 in
theorem w11_token_L163 {Γ : CT} {sp : Sp} {K : Ly} {sz n : Nat} {hf : Hp}  (X : Ok Γ sp prog_13_method_15_code Rc11 3 none 2 none sz K hf) (hK : LyOk K) (x0 : Nat)  (px0 : K x0 = some (.inl 11))  : ∀ (k : Nat) (x2 : Int32) (h : Hp), f11_token_L163 K n x0  k x2 h = some hf → Go Γ (0, 0) 163 [(0, .ref x0), (2, .int x2)] [] sz K h := by
  intro k
  induction k with
  | zero => intro x2 h E; cases E
  | succ k ih =>
    intro x2 h E
    unfold f11_token_L163 at E
    refine g_aload_n (n := 0) X (by decide +kernel) 0 rfl ?_
    obtain ⟨y21, e20, E⟩ := bp_E E
    refine g_callV1 (st := []) X [] (by decide +kernel) ml11_195 px0 rfl rfl (by decide) (Nat.le_of_ble_eq_true rfl) (c11_see hK x0 h px0 e20) ?_
    refine g_bipush (n := 48) (x := (48 : Int32)) X (by decide +kernel) (by decide) ?_
    refine g_bipush (n := 57) (x := (57 : Int32)) X (by decide +kernel) (by decide) ?_
    refine g_callS1 (st := []) X [.int y21, .int (48 : Int32), .int (57 : Int32)] (by decide +kernel) ml11_181 (by decide) (Nat.le_of_ble_eq_true rfl) (c11_in hK y21 (48 : Int32) (57 : Int32) h ) ?_
    rcases it_E E with ⟨c22, E⟩ | ⟨c22, E⟩
    · refine g_if_eq_t (off := 50) (tgt := 224) X (by decide +kernel) (by decide) c22 ?_
      refine g_aload_n (n := 0) X (by decide +kernel) 0 rfl ?_
      refine g_iload_n (n := 2) X (by decide +kernel) 1 rfl ?_
      refine g_iconst (n := 2) (x := (2 : Int32)) X (by decide +kernel) (by decide) ?_
      have hJ : Go Γ (0, 0) 235 [] [.int (if x2 ≤ (2 : Int32) then (3 : Int32) else (1 : Int32)), .ref x0] sz K h := by
        exact w11_token_J235 X hK x0 (if x2 ≤ (2 : Int32) then (3 : Int32) else (1 : Int32)) h px0 E
      clear E
      by_cases c23 : x2 ≤ (2 : Int32)
      · rw [if_pos c23] at hJ
        refine g_icmp_le_t (off := 7) (tgt := 234) X (by decide +kernel) (by decide) c23 ?_
        refine g_iconst (n := 3) (x := (3 : Int32)) X (by decide +kernel) (by decide) ?_
        refine g_sub [] rfl ?_
        exact hJ
      · rw [if_neg c23] at hJ
        refine g_icmp_le_f (off := 7) (tgt := 234) X (by decide +kernel) (by decide) c23 ?_
        refine g_iconst (n := 1) (x := (1 : Int32)) X (by decide +kernel) (by decide) ?_
        refine g_goto (off := 4) (tgt := 235) X (by decide +kernel) (by decide) ?_
        refine g_sub [] rfl ?_
        exact hJ
    · refine g_if_eq_f (off := 50) (tgt := 224) X (by decide +kernel) (by decide) c22 ?_
      refine g_aload_n (n := 0) X (by decide +kernel) 0 rfl ?_
      refine g_iload_n (n := 2) X (by decide +kernel) 1 rfl ?_
      refine g_iconst (n := 2) (x := (2 : Int32)) X (by decide +kernel) (by decide) ?_
      rcases it_E E with ⟨c24, E⟩ | ⟨c24, E⟩
      · refine g_icmp_ge_t (off := 21) (tgt := 201) X (by decide +kernel) (by decide) c24 ?_
        refine g_aload_n (n := 0) X (by decide +kernel) 0 rfl ?_
        refine g_getI X (by decide +kernel) fl11_209 px0 ?_
        exact w11_token_J205 X hK x0 x2 x0 (h.1 x0 13) h ih px0 px0 E
      · refine g_icmp_ge_f (off := 21) (tgt := 201) X (by decide +kernel) (by decide) c24 ?_
        refine g_bipush (n := 10) (x := (10 : Int32)) X (by decide +kernel) (by decide) ?_
        refine g_aload_n (n := 0) X (by decide +kernel) 0 rfl ?_
        refine g_getI X (by decide +kernel) fl11_209 px0 ?_
        refine g_imul X (by decide +kernel) ?_
        refine g_aload_n (n := 0) X (by decide +kernel) 0 rfl ?_
        obtain ⟨y26, e25, E⟩ := bp_E E
        refine g_callV1 (st := [.int ((10 : Int32) * (h.1 x0 13)), .ref x0]) X [] (by decide +kernel) ml11_195 px0 rfl rfl (by decide) (Nat.le_of_ble_eq_true rfl) (c11_see hK x0 h px0 e25) ?_
        refine g_iadd X (by decide +kernel) ?_
        refine g_bipush (n := 48) (x := (48 : Int32)) X (by decide +kernel) (by decide) ?_
        refine g_isub X (by decide +kernel) ?_
        refine g_goto (off := 7) (tgt := 205) X (by decide +kernel) (by decide) ?_
        exact w11_token_J205 X hK x0 x2 x0 ((((10 : Int32) * (h.1 x0 13)) + y26) - (48 : Int32)) h ih px0 px0 E
set_option maxHeartbeats 4000000 in
set_option maxRecDepth 20000 in
theorem w11_token_J263 {Γ : CT} {sp : Sp} {K : Ly} {sz n : Nat} {hf : Hp}   (X : Ok Γ sp prog_13_method_15_code Rc11 3 none 2 none sz K hf) (hK : LyOk K) (s0 : Nat) (s1 : Int32) (h : Hp)  (ps0 : K s0 = some (.inl 11)) (E : f11_token_J263 K n s0 s1 h = some hf) : Go Γ (0, 0) 263 [] [.int s1, .ref s0] sz K h := by
  unfold f11_token_J263 at E
  obtain ⟨h19, eh19, E⟩ := lt_E E
  refine g_putI X (by decide +kernel) fp11_206 ps0 eh19 ?_
  obtain rfl := Option.some.inj E
  exact g_return X (by decide +kernel)
set_option maxHeartbeats 4000000 in
set_option maxRecDepth 20000 in
theorem w11_token_L0 {Γ : CT} {sp : Sp} {K : Ly} {sz n : Nat} {hf : Hp}  (X : Ok Γ sp prog_13_method_15_code Rc11 3 none 2 none sz K hf) (hK : LyOk K) (x0 : Nat)  (px0 : K x0 = some (.inl 11))  : ∀ (k : Nat)  (h : Hp), f11_token_L0 K n x0  k h = some hf → Go Γ (0, 0) 0 [(0, .ref x0)] [] sz K h := by
  intro k
  induction k with
  | zero => intro h E; cases E
  | succ k ih =>
    intro h E
    unfold f11_token_L0 at E
    refine g_aload_n (n := 0) X (by decide +kernel) 0 rfl ?_
    obtain ⟨y2, e1, E⟩ := bp_E E
    refine g_callV1 (st := []) X [] (by decide +kernel) ml11_195 px0 rfl rfl (by decide) (Nat.le_of_ble_eq_true rfl) (c11_see hK x0 h px0 e1) ?_
    refine g_bipush (n := 10) (x := (10 : Int32)) X (by decide +kernel) (by decide) ?_
    rcases it_E E with ⟨c3, E⟩ | ⟨c3, E⟩
    · refine g_icmp_eq_t (off := 12) (tgt := 18) X (by decide +kernel) (by decide) c3 ?_
      exact w11_token_J18 X hK x0 h ih px0 E
    · refine g_icmp_eq_f (off := 12) (tgt := 18) X (by decide +kernel) (by decide) c3 ?_
      refine g_aload_n (n := 0) X (by decide +kernel) 0 rfl ?_
      obtain ⟨y5, e4, E⟩ := bp_E E
      refine g_callV1 (st := []) X [] (by decide +kernel) ml11_195 px0 rfl rfl (by decide) (Nat.le_of_ble_eq_true rfl) (c11_see hK x0 h px0 e4) ?_
      refine g_bipush (n := 32) (x := (32 : Int32)) X (by decide +kernel) (by decide) ?_
      rcases it_E E with ⟨c6, E⟩ | ⟨c6, E⟩
      · refine g_icmp_ne_f (off := 16) (tgt := 31) X (by decide +kernel) (by decide) (fun z => z c6) ?_
        exact w11_token_J18 X hK x0 h ih px0 E
      · refine g_icmp_ne_t (off := 16) (tgt := 31) X (by decide +kernel) (by decide) c6 ?_
        refine g_aload_n (n := 0) X (by decide +kernel) 0 rfl ?_
        refine g_aload_n (n := 0) X (by decide +kernel) 0 rfl ?_
        refine g_getI X (by decide +kernel) fl11_189 px0 ?_
        obtain ⟨h7, eh7, E⟩ := lt_E E
        refine g_putI X (by decide +kernel) fp11_199 px0 eh7 ?_
        refine g_aload_n (n := 0) X (by decide +kernel) 0 rfl ?_
        obtain ⟨y9, e8, E⟩ := bp_E E
        refine g_callV1 (st := []) X [] (by decide +kernel) ml11_195 px0 rfl rfl (by decide) (Nat.le_of_ble_eq_true rfl) (c11_see hK x0 h7 px0 e8) ?_
        refine s_istore_n (n := 1) (i := 1) X (by decide +kernel) rfl (by decide) rfl (ls_next (by decide) (Or.inr rfl) (ls_ins ls_end)) ?_
        refine g_aload_n (n := 0) X (by decide +kernel) 0 rfl ?_
        refine g_lconst (n := 0) (x := (0 : Int64)) X (by decide +kernel) (by decide) ?_
        obtain ⟨h10, eh10, E⟩ := lt_E E
        refine g_putL X (by decide +kernel) fp11_202 px0 eh10 ?_
        refine g_iconst (n := 0) (x := (0 : Int32)) X (by decide +kernel) (by decide) ?_
        refine s_istore_n (n := 2) (i := 2) X (by decide +kernel) rfl (by decide) rfl (ls_next (by decide) (Or.inr rfl) (ls_next (by decide) (Or.inr rfl) (ls_ins ls_end))) ?_
        refine g_iload_n (n := 1) X (by decide +kernel) 1 rfl ?_
        rcases it_E E with ⟨c11, E⟩ | ⟨c11, E⟩
        · refine g_if_ge_t (off := 11) (tgt := 63) X (by decide +kernel) (by decide) c11 ?_
          refine g_iload_n (n := 1) X (by decide +kernel) 1 rfl ?_
          refine g_bipush (n := 97) (x := (97 : Int32)) X (by decide +kernel) (by decide) ?_
          refine g_bipush (n := 122) (x := (122 : Int32)) X (by decide +kernel) (by decide) ?_
          refine g_callS1 (st := []) X [.int y9, .int (97 : Int32), .int (122 : Int32)] (by decide +kernel) ml11_181 (by decide) (Nat.le_of_ble_eq_true rfl) (c11_in hK y9 (97 : Int32) (122 : Int32) h10 ) ?_
          rcases it_E E with ⟨c12, E⟩ | ⟨c12, E⟩
          · refine g_if_eq_t (off := 76) (tgt := 147) X (by decide +kernel) (by decide) c12 ?_
            refine g_iload_n (n := 1) X (by decide +kernel) 1 rfl ?_
            refine g_bipush (n := 48) (x := (48 : Int32)) X (by decide +kernel) (by decide) ?_
            refine g_bipush (n := 57) (x := (57 : Int32)) X (by decide +kernel) (by decide) ?_
            refine g_callS1 (st := []) X [.int y9, .int (48 : Int32), .int (57 : Int32)] (by decide +kernel) ml11_181 (by decide) (Nat.le_of_ble_eq_true rfl) (c11_in hK y9 (48 : Int32) (57 : Int32) h10 ) ?_
            rcases it_E E with ⟨c13, E⟩ | ⟨c13, E⟩
            · refine g_if_eq_t (off := 86) (tgt := 241) X (by decide +kernel) (by decide) c13 ?_
              refine g_aload_n (n := 0) X (by decide +kernel) 0 rfl ?_
              refine g_dup X (by decide +kernel) rfl ?_
              refine g_getI X (by decide +kernel) fl11_189 px0 ?_
              refine g_iconst (n := 1) (x := (1 : Int32)) X (by decide +kernel) (by decide) ?_
              refine g_iadd X (by decide +kernel) ?_
              obtain ⟨h14, eh14, E⟩ := lt_E E
              refine g_putI X (by decide +kernel) fp11_189 px0 eh14 ?_
              refine g_aload_n (n := 0) X (by decide +kernel) 0 rfl ?_
              refine g_iload_n (n := 1) X (by decide +kernel) 1 rfl ?_
              refine g_bipush (n := 59) (x := (59 : Int32)) X (by decide +kernel) (by decide) ?_
              have hJ : Go Γ (0, 0) 263 [] [.int (if y9 = (59 : Int32) then (4 : Int32) else (1 : Int32)), .ref x0] sz K h14 := by
                exact w11_token_J263 X hK x0 (if y9 = (59 : Int32) then (4 : Int32) else (1 : Int32)) h14 px0 E
              clear E
              by_cases c15 : y9 = (59 : Int32)
              · rw [if_pos c15] at hJ
                refine g_icmp_ne_f (off := 7) (tgt := 262) X (by decide +kernel) (by decide) (fun z => z c15) ?_
                refine g_iconst (n := 4) (x := (4 : Int32)) X (by decide +kernel) (by decide) ?_
                refine g_goto (off := 4) (tgt := 263) X (by decide +kernel) (by decide) ?_
                refine g_sub [] rfl ?_
                exact hJ
              · rw [if_neg c15] at hJ
                refine g_icmp_ne_t (off := 7) (tgt := 262) X (by decide +kernel) (by decide) c15 ?_
                refine g_iconst (n := 1) (x := (1 : Int32)) X (by decide +kernel) (by decide) ?_
                refine g_sub [] rfl ?_
                exact hJ
            · refine g_if_eq_f (off := 86) (tgt := 241) X (by decide +kernel) (by decide) c13 ?_
              refine g_aload_n (n := 0) X (by decide +kernel) 0 rfl ?_
              refine g_iconst (n := 0) (x := (0 : Int32)) X (by decide +kernel) (by decide) ?_
              obtain ⟨h16, eh16, E⟩ := lt_E E
              refine g_putI X (by decide +kernel) fp11_209 px0 eh16 ?_
              refine g_sub [0, 2] rfl ?_
              exact w11_token_L163 X hK x0 px0 n (0 : Int32) h16 E
          · refine g_if_eq_f (off := 76) (tgt := 147) X (by decide +kernel) (by decide) c12 ?_
            refine g_sub [0, 2] rfl ?_
            exact w11_token_L74 X hK x0 px0 n (0 : Int32) h10 E
        · refine g_if_ge_f (off := 11) (tgt := 63) X (by decide +kernel) (by decide) c11 ?_
          refine g_aload_n (n := 0) X (by decide +kernel) 0 rfl ?_
          refine g_iconst (n := 0) (x := (0 : Int32)) X (by decide +kernel) (by decide) ?_
          obtain ⟨h17, eh17, E⟩ := lt_E E
          refine g_putI X (by decide +kernel) fp11_206 px0 eh17 ?_
          refine g_goto (off := 206) (tgt := 266) X (by decide +kernel) (by decide) ?_
          obtain rfl := Option.some.inj E
          exact g_return X (by decide +kernel)
set_option maxHeartbeats 4000000 in
set_option maxRecDepth 20000 in
theorem c11_token {sp : Sp} {K : Ly} {sz n : Nat} (hK : LyOk K) (o : Nat) (h : Hp) (ho : K o = some (.inl 11)) {hf : Hp} (E : f11_token K n o h = some hf) : Con sp y11_token prog_13_method_15_code 3 none 2 0 0 [.ref o] sz K h none sz K hf := by
  refine Con.of (by decide) (Nat.le_of_ble_eq_true rfl) (fun Γ X _ => ?_)
  show Go Γ (0, 0) 0 [(0, .ref o)] [] sz K h
  unfold f11_token at E
  exact w11_token_L0 X hK o ho n h E
-- AskedNamesModel.fails
def f11_fails (K : Ly) (n : Nat) (o : Nat) (h : Hp) : Option (Int32 × Hp) :=
    lt (sI h o 15 (h.1 o 11)) fun h1 =>
    some ((0 : Int32), h1)
set_option maxHeartbeats 4000000 in
set_option maxRecDepth 20000 in
theorem c11_fails {sp : Sp} {K : Ly} {sz n : Nat} (hK : LyOk K) (o : Nat) (h : Hp) (ho : K o = some (.inl 11)) {v : Int32} {hf : Hp} (E : f11_fails K n o h = some (v, hf)) : Con sp y11_fails prog_13_method_16_code 1 (some (.boolean)) 1 0 0 [.ref o] sz K h (some (.int v)) sz K hf := by
  refine Con.of (by decide) (Nat.le_of_ble_eq_true rfl) (fun Γ X _ => ?_)
  show Go Γ (0, 0) 0 [(0, .ref o)] [] sz K h
  unfold f11_fails at E
  refine g_aload_n (n := 0) X (by decide +kernel) 0 rfl ?_
  refine g_aload_n (n := 0) X (by decide +kernel) 0 rfl ?_
  refine g_getI X (by decide +kernel) fl11_199 ho ?_
  obtain ⟨h1, eh1, E⟩ := lt_E E
  refine g_putI X (by decide +kernel) fp11_212 ho eh1 ?_
  refine g_iconst (n := 0) (x := (0 : Int32)) X (by decide +kernel) (by decide) ?_
  obtain ⟨rfl, rfl⟩ := rt_E E
  exact g_zreturn X (by decide +kernel) rfl
-- AskedNamesModel.addsFault
def f11_addsFault_J31 (K : Ly) (n : Nat)  (x0 : Nat) (x1 : Int32) (x2 : Int32) (h : Hp) : Option Hp :=
    lt (sI h x0 16 x1) fun h5 =>
    lt (sI h5 x0 17 x2) fun h6 =>
    some h6
def f11_addsFault (K : Ly) (n : Nat) (o : Nat) (a1 : Int32) (a2 : Int32) (h : Hp) : Option Hp :=
    if (h.1 o 16) = 0 then (
    f11_addsFault_J31 K n o a1 a2 h)
    else (
    if a2 < (h.1 o 17) then (
    f11_addsFault_J31 K n o a1 a2 h)
    else (
    if a2 = (h.1 o 17) then (
    if (h.1 o 16) ≤ a1 then (
    some h)
    else (
    f11_addsFault_J31 K n o a1 a2 h))
    else (
    some h)))
set_option maxHeartbeats 4000000 in
set_option maxRecDepth 20000 in
theorem w11_addsFault_J31 {Γ : CT} {sp : Sp} {K : Ly} {sz n : Nat} {hf : Hp}   (X : Ok Γ sp prog_13_method_17_code Rc11 3 none 1 none sz K hf) (hK : LyOk K) (x0 : Nat) (x1 : Int32) (x2 : Int32) (h : Hp)  (px0 : K x0 = some (.inl 11)) (E : f11_addsFault_J31 K n x0 x1 x2 h = some hf) : Go Γ (0, 0) 31 [(0, .ref x0), (1, .int x1), (2, .int x2)] [] sz K h := by
  unfold f11_addsFault_J31 at E
  refine g_aload_n (n := 0) X (by decide +kernel) 0 rfl ?_
  refine g_iload_n (n := 1) X (by decide +kernel) 1 rfl ?_
  obtain ⟨h5, eh5, E⟩ := lt_E E
  refine g_putI X (by decide +kernel) fp11_215 px0 eh5 ?_
  refine g_aload_n (n := 0) X (by decide +kernel) 0 rfl ?_
  refine g_iload_n (n := 2) X (by decide +kernel) 2 rfl ?_
  obtain ⟨h6, eh6, E⟩ := lt_E E
  refine g_putI X (by decide +kernel) fp11_218 px0 eh6 ?_
  obtain rfl := Option.some.inj E
  exact g_return X (by decide +kernel)
set_option maxHeartbeats 4000000 in
set_option maxRecDepth 20000 in
theorem c11_addsFault {sp : Sp} {K : Ly} {sz n : Nat} (hK : LyOk K) (o : Nat) (a1 : Int32) (a2 : Int32) (h : Hp) (ho : K o = some (.inl 11)) {hf : Hp} (E : f11_addsFault K n o a1 a2 h = some hf) : Con sp y11_addsFault prog_13_method_17_code 3 none 1 0 0 [.ref o, .int a1, .int a2] sz K h none sz K hf := by
  refine Con.of (by decide) (Nat.le_of_ble_eq_true rfl) (fun Γ X _ => ?_)
  show Go Γ (0, 0) 0 [(0, .ref o), (1, .int a1), (2, .int a2)] [] sz K h
  unfold f11_addsFault at E
  refine g_aload_n (n := 0) X (by decide +kernel) 0 rfl ?_
  refine g_getI X (by decide +kernel) fl11_215 ho ?_
  rcases it_E E with ⟨c1, E⟩ | ⟨c1, E⟩
  · refine g_if_eq_t (off := 27) (tgt := 31) X (by decide +kernel) (by decide) c1 ?_
    exact w11_addsFault_J31 X hK o a1 a2 h ho E
  · refine g_if_eq_f (off := 27) (tgt := 31) X (by decide +kernel) (by decide) c1 ?_
    refine g_iload_n (n := 2) X (by decide +kernel) 2 rfl ?_
    refine g_aload_n (n := 0) X (by decide +kernel) 0 rfl ?_
    refine g_getI X (by decide +kernel) fl11_218 ho ?_
    rcases it_E E with ⟨c2, E⟩ | ⟨c2, E⟩
    · refine g_icmp_lt_t (off := 19) (tgt := 31) X (by decide +kernel) (by decide) c2 ?_
      exact w11_addsFault_J31 X hK o a1 a2 h ho E
    · refine g_icmp_lt_f (off := 19) (tgt := 31) X (by decide +kernel) (by decide) c2 ?_
      refine g_iload_n (n := 2) X (by decide +kernel) 2 rfl ?_
      refine g_aload_n (n := 0) X (by decide +kernel) 0 rfl ?_
      refine g_getI X (by decide +kernel) fl11_218 ho ?_
      rcases it_E E with ⟨c3, E⟩ | ⟨c3, E⟩
      · refine g_icmp_ne_f (off := 21) (tgt := 41) X (by decide +kernel) (by decide) (fun z => z c3) ?_
        refine g_iload_n (n := 1) X (by decide +kernel) 1 rfl ?_
        refine g_aload_n (n := 0) X (by decide +kernel) 0 rfl ?_
        refine g_getI X (by decide +kernel) fl11_215 ho ?_
        rcases it_E E with ⟨c4, E⟩ | ⟨c4, E⟩
        · refine g_icmp_ge_t (off := 13) (tgt := 41) X (by decide +kernel) (by decide) c4 ?_
          obtain rfl := Option.some.inj E
          exact g_return X (by decide +kernel)
        · refine g_icmp_ge_f (off := 13) (tgt := 41) X (by decide +kernel) (by decide) c4 ?_
          exact w11_addsFault_J31 X hK o a1 a2 h ho E
      · refine g_icmp_ne_t (off := 21) (tgt := 41) X (by decide +kernel) (by decide) c3 ?_
        obtain rfl := Option.some.inj E
        exact g_return X (by decide +kernel)
-- AskedNamesModel.takeBut
def f11_takeBut_J58 (K : Ly) (n : Nat)  (x0 : Nat) (h : Hp) : Option (Int32 × Hp) :=
    bp (f11_token K n x0 h) fun h14 =>
    some ((1 : Int32), h14)
def f11_takeBut_J44 (K : Ly) (n : Nat)  (x0 : Nat) (h : Hp) : Option (Int32 × Hp) :=
    bp (f11_addsFault K n x0 (2 : Int32) (h.1 x0 11) h) fun h11 =>
    lt (sI h11 x0 21 (0 : Int32)) fun h12 =>
    f11_takeBut_J58 K n x0 h12
def f11_takeBut (K : Ly) (n : Nat) (o : Nat) (a1 : Int32) (a2 : Int32) (a3 : Int32) (a4 : Int32) (h : Hp) : Option (Int32 × Hp) :=
    if (h.1 o 12) = (3 : Int32) then (
    gd (inb a1 4) <|
    lt (sI h (o + 10) a1.toNatClampNeg (h.1 o 13)) fun h3 =>
    if (f11_in (h3.1 o 13) a2 a3) = 0 then (
    f11_takeBut_J44 K n o h3)
    else (
    if (h3.1 o 13) = a4 then (
    f11_takeBut_J44 K n o h3)
    else (
    f11_takeBut_J58 K n o h3)))
    else (
    bd (f11_fails K n o h) fun y8 h7 =>
    gd (isB y8) <|
    some (y8, h7))
set_option maxHeartbeats 4000000 in
set_option maxRecDepth 20000 in
theorem w11_takeBut_J58 {Γ : CT} {sp : Sp} {K : Ly} {sz n : Nat} {v : Int32} {hf : Hp}   (X : Ok Γ sp prog_13_method_18_code Rc11 5 (some (.boolean)) 3 (some (.int v)) sz K hf) (hK : LyOk K) (x0 : Nat) (h : Hp)  (px0 : K x0 = some (.inl 11)) (E : f11_takeBut_J58 K n x0 h = some (v, hf)) : Go Γ (0, 0) 58 [(0, .ref x0)] [] sz K h := by
  unfold f11_takeBut_J58 at E
  refine g_aload_n (n := 0) X (by decide +kernel) 0 rfl ?_
  obtain ⟨h14, e13, E⟩ := bp_E E
  refine g_callV0 (st := []) X [] (by decide +kernel) ml11_233 px0 rfl rfl (by decide) (Nat.le_of_ble_eq_true rfl) (c11_token hK x0 h px0 e13) ?_
  refine g_iconst (n := 1) (x := (1 : Int32)) X (by decide +kernel) (by decide) ?_
  obtain ⟨rfl, rfl⟩ := rt_E E
  exact g_zreturn X (by decide +kernel) rfl
set_option maxHeartbeats 4000000 in
set_option maxRecDepth 20000 in
theorem w11_takeBut_J44 {Γ : CT} {sp : Sp} {K : Ly} {sz n : Nat} {v : Int32} {hf : Hp}   (X : Ok Γ sp prog_13_method_18_code Rc11 5 (some (.boolean)) 3 (some (.int v)) sz K hf) (hK : LyOk K) (x0 : Nat) (h : Hp)  (px0 : K x0 = some (.inl 11)) (E : f11_takeBut_J44 K n x0 h = some (v, hf)) : Go Γ (0, 0) 44 [(0, .ref x0)] [] sz K h := by
  unfold f11_takeBut_J44 at E
  refine g_aload_n (n := 0) X (by decide +kernel) 0 rfl ?_
  refine g_iconst (n := 2) (x := (2 : Int32)) X (by decide +kernel) (by decide) ?_
  refine g_aload_n (n := 0) X (by decide +kernel) 0 rfl ?_
  refine g_getI X (by decide +kernel) fl11_199 px0 ?_
  obtain ⟨h11, e10, E⟩ := bp_E E
  refine g_callV0 (st := []) X [.int (2 : Int32), .int (h.1 x0 11)] (by decide +kernel) ml11_225 px0 rfl rfl (by decide) (Nat.le_of_ble_eq_true rfl) (c11_addsFault hK x0 (2 : Int32) (h.1 x0 11) h px0 e10) ?_
  refine g_aload_n (n := 0) X (by decide +kernel) 0 rfl ?_
  refine g_iconst (n := 0) (x := (0 : Int32)) X (by decide +kernel) (by decide) ?_
  obtain ⟨h12, eh12, E⟩ := lt_E E
  refine g_putZ X (by decide +kernel) fp11_229 rfl rfl px0 eh12 ?_
  exact w11_takeBut_J58 X hK x0 h12 px0 E
set_option maxHeartbeats 4000000 in
set_option maxRecDepth 20000 in
theorem c11_takeBut {sp : Sp} {K : Ly} {sz n : Nat} (hK : LyOk K) (o : Nat) (a1 : Int32) (a2 : Int32) (a3 : Int32) (a4 : Int32) (h : Hp) (ho : K o = some (.inl 11)) {v : Int32} {hf : Hp} (E : f11_takeBut K n o a1 a2 a3 a4 h = some (v, hf)) : Con sp y11_takeBut prog_13_method_18_code 5 (some (.boolean)) 3 0 0 [.ref o, .int a1, .int a2, .int a3, .int a4] sz K h (some (.int v)) sz K hf := by
  refine Con.of (by decide) (Nat.le_of_ble_eq_true rfl) (fun Γ X _ => ?_)
  show Go Γ (0, 0) 0 [(0, .ref o), (1, .int a1), (2, .int a2), (3, .int a3), (4, .int a4)] [] sz K h
  unfold f11_takeBut at E
  refine g_aload_n (n := 0) X (by decide +kernel) 0 rfl ?_
  refine g_getI X (by decide +kernel) fl11_206 ho ?_
  refine g_iconst (n := 3) (x := (3 : Int32)) X (by decide +kernel) (by decide) ?_
  rcases it_E E with ⟨c1, E⟩ | ⟨c1, E⟩
  · refine g_icmp_eq_t (off := 8) (tgt := 13) X (by decide +kernel) (by decide) c1 ?_
    refine g_aload_n (n := 0) X (by decide +kernel) 0 rfl ?_
    refine g_getS X (by decide +kernel) fl11_38 ho ?_
    refine g_iload_n (n := 1) X (by decide +kernel) 1 rfl ?_
    refine g_aload_n (n := 0) X (by decide +kernel) 0 rfl ?_
    refine g_getI X (by decide +kernel) fl11_209 ho ?_
    obtain ⟨c2, E⟩ := gd_E E
    obtain ⟨h3, eh3, E⟩ := lt_E E
    refine g_iast X (by decide +kernel) (ly hK ho fl11_38 rfl) c2 eh3 ?_
    refine g_aload_n (n := 0) X (by decide +kernel) 0 rfl ?_
    refine g_getI X (by decide +kernel) fl11_209 ho ?_
    refine g_iload_n (n := 2) X (by decide +kernel) 2 rfl ?_
    refine g_iload_n (n := 3) X (by decide +kernel) 3 rfl ?_
    refine g_callS1 (st := []) X [.int (h3.1 o 13), .int a2, .int a3] (by decide +kernel) ml11_181 (by decide) (Nat.le_of_ble_eq_true rfl) (c11_in hK (h3.1 o 13) a2 a3 h3 ) ?_
    rcases it_E E with ⟨c4, E⟩ | ⟨c4, E⟩
    · refine g_if_eq_t (off := 12) (tgt := 44) X (by decide +kernel) (by decide) c4 ?_
      refine g_sub [0] rfl ?_
      exact w11_takeBut_J44 X hK o h3 ho E
    · refine g_if_eq_f (off := 12) (tgt := 44) X (by decide +kernel) (by decide) c4 ?_
      refine g_aload_n (n := 0) X (by decide +kernel) 0 rfl ?_
      refine g_getI X (by decide +kernel) fl11_209 ho ?_
      refine g_iload (n := 4) X (by decide +kernel) 4 rfl ?_
      rcases it_E E with ⟨c5, E⟩ | ⟨c5, E⟩
      · refine g_icmp_ne_f (off := 17) (tgt := 58) X (by decide +kernel) (by decide) (fun z => z c5) ?_
        refine g_sub [0] rfl ?_
        exact w11_takeBut_J44 X hK o h3 ho E
      · refine g_icmp_ne_t (off := 17) (tgt := 58) X (by decide +kernel) (by decide) c5 ?_
        refine g_sub [0] rfl ?_
        exact w11_takeBut_J58 X hK o h3 ho E
  · refine g_icmp_eq_f (off := 8) (tgt := 13) X (by decide +kernel) (by decide) c1 ?_
    refine g_aload_n (n := 0) X (by decide +kernel) 0 rfl ?_
    obtain ⟨y8, h7, e6, E⟩ := bd_E E
    refine g_callV1 (st := []) X [] (by decide +kernel) ml11_221 ho rfl rfl (by decide) (Nat.le_of_ble_eq_true rfl) (c11_fails hK o h ho e6) ?_
    obtain ⟨c9, E⟩ := gd_E E
    obtain ⟨rfl, rfl⟩ := rt_E E
    exact g_zreturn X (by decide +kernel) (isB_n c9)
-- AskedNamesModel.take
def f11_take (K : Ly) (n : Nat) (o : Nat) (a1 : Int32) (a2 : Int32) (a3 : Int32) (h : Hp) : Option (Int32 × Hp) :=
    bd (f11_takeBut K n o a1 a2 a3 (-1 : Int32) h) fun y3 h2 =>
    gd (isB y3) <|
    some (y3, h2)
set_option maxHeartbeats 4000000 in
set_option maxRecDepth 20000 in
theorem c11_take {sp : Sp} {K : Ly} {sz n : Nat} (hK : LyOk K) (o : Nat) (a1 : Int32) (a2 : Int32) (a3 : Int32) (h : Hp) (ho : K o = some (.inl 11)) {v : Int32} {hf : Hp} (E : f11_take K n o a1 a2 a3 h = some (v, hf)) : Con sp y11_take prog_13_method_19_code 4 (some (.boolean)) 4 0 0 [.ref o, .int a1, .int a2, .int a3] sz K h (some (.int v)) sz K hf := by
  refine Con.of (by decide) (Nat.le_of_ble_eq_true rfl) (fun Γ X _ => ?_)
  show Go Γ (0, 0) 0 [(0, .ref o), (1, .int a1), (2, .int a2), (3, .int a3)] [] sz K h
  unfold f11_take at E
  refine g_aload_n (n := 0) X (by decide +kernel) 0 rfl ?_
  refine g_iload_n (n := 1) X (by decide +kernel) 1 rfl ?_
  refine g_iload_n (n := 2) X (by decide +kernel) 2 rfl ?_
  refine g_iload_n (n := 3) X (by decide +kernel) 3 rfl ?_
  refine g_iconst (n := -1) (x := (-1 : Int32)) X (by decide +kernel) (by decide) ?_
  obtain ⟨y3, h2, e1, E⟩ := bd_E E
  refine g_callV1 (st := []) X [.int a1, .int a2, .int a3, .int (-1 : Int32)] (by decide +kernel) ml11_236 ho rfl rfl (by decide) (Nat.le_of_ble_eq_true rfl) (c11_takeBut hK o a1 a2 a3 (-1 : Int32) h ho e1) ?_
  obtain ⟨c4, E⟩ := gd_E E
  obtain ⟨rfl, rfl⟩ := rt_E E
  exact g_zreturn X (by decide +kernel) (isB_n c4)
-- AskedNamesModel.takeNode
def f11_takeNode (K : Ly) (n : Nat) (o : Nat) (a1 : Int32) (a2 : Int32) (h : Hp) : Option (Int32 × Hp) :=
    bd (f11_takeBut K n o a1 (0 : Int32) (5 : Int32) a2 h) fun y3 h2 =>
    if y3 = 0 then (
    some ((0 : Int32), h2))
    else (
    gd (inb a1 4) <|
    lt (sI h2 o 20 (f11_greater (h2.1 o 20) (h2.1 (o + 10) a1.toNatClampNeg))) fun h6 =>
    some ((1 : Int32), h6))
set_option maxHeartbeats 4000000 in
set_option maxRecDepth 20000 in
theorem c11_takeNode {sp : Sp} {K : Ly} {sz n : Nat} (hK : LyOk K) (o : Nat) (a1 : Int32) (a2 : Int32) (h : Hp) (ho : K o = some (.inl 11)) {v : Int32} {hf : Hp} (E : f11_takeNode K n o a1 a2 h = some (v, hf)) : Con sp y11_takeNode prog_13_method_20_code 3 (some (.boolean)) 4 0 0 [.ref o, .int a1, .int a2] sz K h (some (.int v)) sz K hf := by
  refine Con.of (by decide) (Nat.le_of_ble_eq_true rfl) (fun Γ X _ => ?_)
  show Go Γ (0, 0) 0 [(0, .ref o), (1, .int a1), (2, .int a2)] [] sz K h
  unfold f11_takeNode at E
  refine g_aload_n (n := 0) X (by decide +kernel) 0 rfl ?_
  refine g_iload_n (n := 1) X (by decide +kernel) 1 rfl ?_
  refine g_iconst (n := 0) (x := (0 : Int32)) X (by decide +kernel) (by decide) ?_
  refine g_iconst (n := 5) (x := (5 : Int32)) X (by decide +kernel) (by decide) ?_
  refine g_iload_n (n := 2) X (by decide +kernel) 2 rfl ?_
  obtain ⟨y3, h2, e1, E⟩ := bd_E E
  refine g_callV1 (st := []) X [.int a1, .int (0 : Int32), .int (5 : Int32), .int a2] (by decide +kernel) ml11_236 ho rfl rfl (by decide) (Nat.le_of_ble_eq_true rfl) (c11_takeBut hK o a1 (0 : Int32) (5 : Int32) a2 h ho e1) ?_
  rcases it_E E with ⟨c4, E⟩ | ⟨c4, E⟩
  · refine g_if_ne_f (off := 5) (tgt := 13) X (by decide +kernel) (by decide) (fun z => z c4) ?_
    refine g_iconst (n := 0) (x := (0 : Int32)) X (by decide +kernel) (by decide) ?_
    obtain ⟨rfl, rfl⟩ := rt_E E
    exact g_zreturn X (by decide +kernel) rfl
  · refine g_if_ne_t (off := 5) (tgt := 13) X (by decide +kernel) (by decide) c4 ?_
    refine g_aload_n (n := 0) X (by decide +kernel) 0 rfl ?_
    refine g_aload_n (n := 0) X (by decide +kernel) 0 rfl ?_
    refine g_getI X (by decide +kernel) fl11_240 ho ?_
    refine g_aload_n (n := 0) X (by decide +kernel) 0 rfl ?_
    refine g_getS X (by decide +kernel) fl11_38 ho ?_
    refine g_iload_n (n := 1) X (by decide +kernel) 1 rfl ?_
    obtain ⟨c5, E⟩ := gd_E E
    refine g_iald X (by decide +kernel) (ly hK ho fl11_38 rfl) c5 ?_
    refine g_callS1 (st := [.ref o]) X [.int (h2.1 o 20), .int (h2.1 (o + 10) a1.toNatClampNeg)] (by decide +kernel) ml11_243 (by decide) (Nat.le_of_ble_eq_true rfl) (c11_greater hK (h2.1 o 20) (h2.1 (o + 10) a1.toNatClampNeg) h2 ) ?_
    obtain ⟨h6, eh6, E⟩ := lt_E E
    refine g_putI X (by decide +kernel) fp11_240 ho eh6 ?_
    refine g_iconst (n := 1) (x := (1 : Int32)) X (by decide +kernel) (by decide) ?_
    obtain ⟨rfl, rfl⟩ := rt_E E
    exact g_zreturn X (by decide +kernel) rfl
-- AskedNamesModel.numberOf
def f11_numberOf_J38 (K : Ly) (n : Nat) (r5 : Int32 → Int32 → Option (Int32)) (x0 : Int64) (x3 : Int32) (s0 : Int32) (h : Hp) : Option (Int32) :=
    lt (x3 + (-8 : Int32)) fun x3_4 =>
    r5 s0 x3_4
def f11_numberOf_L5 (K : Ly) (n : Nat) (x0 : Int64) (h : Hp)  : Nat → Int32 → Int32 → Option (Int32)
  | 0, _, _ => none
  | k + 1, x2, x3 =>
    if x3 < 0 then (
    some x2)
    else (
    lt (((x0 >>> (x3.toInt64 &&& 63)) &&& (255 : Int64)).toInt32) fun x4_2 =>
    f11_numberOf_J38 K n (f11_numberOf_L5 K n x0 h  k) x0 x3 (if x4_2 = 0 then x2 else ((((27 : Int32) * x2) + x4_2) - (96 : Int32))) h)
def f11_numberOf (K : Ly) (n : Nat) (a0 : Int64) (h : Hp) : Option (Int32) :=
    f11_numberOf_L5 K n a0 h n (0 : Int32) (24 : Int32)
set_option maxHeartbeats 4000000 in
set_option maxRecDepth 20000 in
theorem w11_numberOf_J38 {Γ : CT} {sp : Sp} {K : Ly} {sz n : Nat} {v : Int32} {h : Hp}  {r5 : Int32 → Int32 → Option (Int32)}  (X : Ok Γ sp prog_13_method_21_code Rc11 5 (some (.int)) 1 (some (.int v)) sz K h) (hK : LyOk K) (x0 : Int64) (x3 : Int32) (s0 : Int32)  (hr5 : ∀ (x2 : Int32) (x3 : Int32), r5 x2 x3 = some v → Go Γ (0, 0) 5 [(0, .long x0), (2, .int x2), (3, .int x3)] [] sz K h)  (E : f11_numberOf_J38 K n r5 x0 x3 s0 h = some v) : Go Γ (0, 0) 38 [(0, .long x0), (3, .int x3)] [.int s0] sz K h := by
  unfold f11_numberOf_J38 at E
  refine s_istore_n (n := 2) (i := 2) X (by decide +kernel) rfl (by decide) rfl (ls_next (by decide) (Or.inl (by decide)) (ls_ins (ls_next (by decide) (Or.inr rfl) ls_end))) ?_
  obtain ⟨x3_4, ex3_4, E⟩ := lt_E E
  refine s_iinc (i := 3) (n := -8) (y := x3_4) X (by decide +kernel) 2 rfl (by decide) (by rw [show Int32.ofInt (-8) = (-8 : Int32) from by decide]; exact ex3_4) (ls_next (by decide) (Or.inl (by decide)) (ls_next (by decide) (Or.inr rfl) (ls_here ls_end))) ?_
  refine g_goto (off := -37) (tgt := 5) X (by decide +kernel) (by decide) ?_
  exact hr5 s0 x3_4  E
set_option maxHeartbeats 4000000 in
set_option maxRecDepth 20000 in
theorem w11_numberOf_L5 {Γ : CT} {sp : Sp} {K : Ly} {sz n : Nat} {v : Int32} {h : Hp}  (X : Ok Γ sp prog_13_method_21_code Rc11 5 (some (.int)) 1 (some (.int v)) sz K h) (hK : LyOk K) (x0 : Int64)    : ∀ (k : Nat) (x2 : Int32) (x3 : Int32), f11_numberOf_L5 K n x0 h  k x2 x3 = some v → Go Γ (0, 0) 5 [(0, .long x0), (2, .int x2), (3, .int x3)] [] sz K h := by
  intro k
  induction k with
  | zero => intro x2 x3 E; cases E
  | succ k ih =>
    intro x2 x3 E
    unfold f11_numberOf_L5 at E
    refine g_iload_n (n := 3) X (by decide +kernel) 2 rfl ?_
    rcases it_E E with ⟨c1, E⟩ | ⟨c1, E⟩
    · refine g_if_lt_t (off := 39) (tgt := 45) X (by decide +kernel) (by decide) c1 ?_
      refine g_iload_n (n := 2) X (by decide +kernel) 1 rfl ?_
      obtain rfl := Option.some.inj E
      exact g_ireturn X (by decide +kernel)
    · refine g_if_lt_f (off := 39) (tgt := 45) X (by decide +kernel) (by decide) c1 ?_
      refine g_lload_n (n := 0) X (by decide +kernel) 0 rfl ?_
      refine g_iload_n (n := 3) X (by decide +kernel) 2 rfl ?_
      refine g_lshr X (by decide +kernel) ?_
      refine g_ldc2_w (index := 247) (x := (255 : Int64)) X (by decide +kernel) (in_c7 79 rfl rfl) ?_
      refine g_land X (by decide +kernel) ?_
      refine g_l2i X (by decide +kernel) ?_
      obtain ⟨x4_2, ex4_2, E⟩ := lt_E E
      refine s_istore (i := 4) X (by decide +kernel) (by decide) ex4_2 (ls_next (by decide) (Or.inl (by decide)) (ls_next (by decide) (Or.inr rfl) (ls_next (by decide) (Or.inr rfl) (ls_ins ls_end)))) ?_
      refine g_iload (n := 4) X (by decide +kernel) 3 rfl ?_
      have hJ : Go Γ (0, 0) 38 [(0, .long x0), (3, .int x3)] [.int (if x4_2 = 0 then x2 else ((((27 : Int32) * x2) + x4_2) - (96 : Int32)))] sz K h := by
        exact w11_numberOf_J38 X hK x0 x3 (if x4_2 = 0 then x2 else ((((27 : Int32) * x2) + x4_2) - (96 : Int32))) ih E
      clear E
      by_cases c3 : x4_2 = 0
      · rw [if_pos c3] at hJ
        refine g_if_ne_f (off := 7) (tgt := 28) X (by decide +kernel) (by decide) (fun z => z c3) ?_
        refine g_iload_n (n := 2) X (by decide +kernel) 1 rfl ?_
        refine g_goto (off := 13) (tgt := 38) X (by decide +kernel) (by decide) ?_
        refine g_sub [0, 2] rfl ?_
        exact hJ
      · rw [if_neg c3] at hJ
        refine g_if_ne_t (off := 7) (tgt := 28) X (by decide +kernel) (by decide) c3 ?_
        refine g_bipush (n := 27) (x := (27 : Int32)) X (by decide +kernel) (by decide) ?_
        refine g_iload_n (n := 2) X (by decide +kernel) 1 rfl ?_
        refine g_imul X (by decide +kernel) ?_
        refine g_iload (n := 4) X (by decide +kernel) 3 rfl ?_
        refine g_iadd X (by decide +kernel) ?_
        refine g_bipush (n := 96) (x := (96 : Int32)) X (by decide +kernel) (by decide) ?_
        refine g_isub X (by decide +kernel) ?_
        refine g_sub [0, 2] rfl ?_
        exact hJ
set_option maxHeartbeats 4000000 in
set_option maxRecDepth 20000 in
theorem c11_numberOf {sp : Sp} {K : Ly} {sz n : Nat} (hK : LyOk K) (a0 : Int64) (h : Hp)  {v : Int32} (E : f11_numberOf K n a0 h = some v) : Con sp y11_numberOf prog_13_method_21_code 5 (some (.int)) 1 0 0 [.long a0] sz K h (some (.int v)) sz K h := by
  refine Con.of (by decide) (Nat.le_of_ble_eq_true rfl) (fun Γ X _ => ?_)
  show Go Γ (0, 0) 0 [(0, .long a0)] [] sz K h
  unfold f11_numberOf at E
  refine g_iconst (n := 0) (x := (0 : Int32)) X (by decide +kernel) (by decide) ?_
  refine s_istore_n (n := 2) (i := 2) X (by decide +kernel) rfl (by decide) rfl (ls_next (by decide) (Or.inl (by decide)) (ls_ins ls_end)) ?_
  refine g_bipush (n := 24) (x := (24 : Int32)) X (by decide +kernel) (by decide) ?_
  refine s_istore_n (n := 3) (i := 3) X (by decide +kernel) rfl (by decide) rfl (ls_next (by decide) (Or.inl (by decide)) (ls_next (by decide) (Or.inr rfl) (ls_ins ls_end))) ?_
  exact w11_numberOf_L5 X hK a0 n (0 : Int32) (24 : Int32) E
-- AskedNamesModel.takeName
def f11_takeName_J40 (K : Ly) (n : Nat)  (x0 : Nat) (x1 : Int32) (h : Hp) : Option (Int32 × Hp) :=
    bp (f11_numberOf K n (h.2.1 x0 14) h) fun y11 =>
    gd (inb x1 4) <|
    lt (sI h (x0 + 10) x1.toNatClampNeg y11) fun h13 =>
    bp (f11_token K n x0 h13) fun h15 =>
    some ((1 : Int32), h15)
def f11_takeName (K : Ly) (n : Nat) (o : Nat) (a1 : Int32) (h : Hp) : Option (Int32 × Hp) :=
    if (h.1 o 12) = (2 : Int32) then (
    if ((h.1 o 9) - (h.1 o 11)) ≤ (4 : Int32) then (
    f11_takeName_J40 K n o a1 h)
    else (
    bp (f11_addsFault K n o (2 : Int32) (h.1 o 11) h) fun h4 =>
    lt (sI h4 o 21 (0 : Int32)) fun h5 =>
    f11_takeName_J40 K n o a1 h5))
    else (
    bd (f11_fails K n o h) fun y8 h7 =>
    gd (isB y8) <|
    some (y8, h7))
set_option maxHeartbeats 4000000 in
set_option maxRecDepth 20000 in
theorem w11_takeName_J40 {Γ : CT} {sp : Sp} {K : Ly} {sz n : Nat} {v : Int32} {hf : Hp}   (X : Ok Γ sp prog_13_method_22_code Rc11 2 (some (.boolean)) 3 (some (.int v)) sz K hf) (hK : LyOk K) (x0 : Nat) (x1 : Int32) (h : Hp)  (px0 : K x0 = some (.inl 11)) (E : f11_takeName_J40 K n x0 x1 h = some (v, hf)) : Go Γ (0, 0) 40 [(0, .ref x0), (1, .int x1)] [] sz K h := by
  unfold f11_takeName_J40 at E
  refine g_aload_n (n := 0) X (by decide +kernel) 0 rfl ?_
  refine g_getS X (by decide +kernel) fl11_38 px0 ?_
  refine g_iload_n (n := 1) X (by decide +kernel) 1 rfl ?_
  refine g_aload_n (n := 0) X (by decide +kernel) 0 rfl ?_
  refine g_getL X (by decide +kernel) fl11_202 px0 ?_
  obtain ⟨y11, e10, E⟩ := bp_E E
  refine g_callS1 (st := [.int x1, .ref (x0 + 10)]) X [.long (h.2.1 x0 14)] (by decide +kernel) ml11_249 (by decide) (Nat.le_of_ble_eq_true rfl) (c11_numberOf hK (h.2.1 x0 14) h  e10) ?_
  obtain ⟨c12, E⟩ := gd_E E
  obtain ⟨h13, eh13, E⟩ := lt_E E
  refine g_iast X (by decide +kernel) (ly hK px0 fl11_38 rfl) c12 eh13 ?_
  refine g_aload_n (n := 0) X (by decide +kernel) 0 rfl ?_
  obtain ⟨h15, e14, E⟩ := bp_E E
  refine g_callV0 (st := []) X [] (by decide +kernel) ml11_233 px0 rfl rfl (by decide) (Nat.le_of_ble_eq_true rfl) (c11_token hK x0 h13 px0 e14) ?_
  refine g_iconst (n := 1) (x := (1 : Int32)) X (by decide +kernel) (by decide) ?_
  obtain ⟨rfl, rfl⟩ := rt_E E
  exact g_zreturn X (by decide +kernel) rfl
set_option maxHeartbeats 4000000 in
set_option maxRecDepth 20000 in
theorem c11_takeName {sp : Sp} {K : Ly} {sz n : Nat} (hK : LyOk K) (o : Nat) (a1 : Int32) (h : Hp) (ho : K o = some (.inl 11)) {v : Int32} {hf : Hp} (E : f11_takeName K n o a1 h = some (v, hf)) : Con sp y11_takeName prog_13_method_22_code 2 (some (.boolean)) 3 0 0 [.ref o, .int a1] sz K h (some (.int v)) sz K hf := by
  refine Con.of (by decide) (Nat.le_of_ble_eq_true rfl) (fun Γ X _ => ?_)
  show Go Γ (0, 0) 0 [(0, .ref o), (1, .int a1)] [] sz K h
  unfold f11_takeName at E
  refine g_aload_n (n := 0) X (by decide +kernel) 0 rfl ?_
  refine g_getI X (by decide +kernel) fl11_206 ho ?_
  refine g_iconst (n := 2) (x := (2 : Int32)) X (by decide +kernel) (by decide) ?_
  rcases it_E E with ⟨c1, E⟩ | ⟨c1, E⟩
  · refine g_icmp_eq_t (off := 8) (tgt := 13) X (by decide +kernel) (by decide) c1 ?_
    refine g_aload_n (n := 0) X (by decide +kernel) 0 rfl ?_
    refine g_getI X (by decide +kernel) fl11_189 ho ?_
    refine g_aload_n (n := 0) X (by decide +kernel) 0 rfl ?_
    refine g_getI X (by decide +kernel) fl11_199 ho ?_
    refine g_isub X (by decide +kernel) ?_
    refine g_iconst (n := 4) (x := (4 : Int32)) X (by decide +kernel) (by decide) ?_
    rcases it_E E with ⟨c2, E⟩ | ⟨c2, E⟩
    · refine g_icmp_le_t (off := 17) (tgt := 40) X (by decide +kernel) (by decide) c2 ?_
      exact w11_takeName_J40 X hK o a1 h ho E
    · refine g_icmp_le_f (off := 17) (tgt := 40) X (by decide +kernel) (by decide) c2 ?_
      refine g_aload_n (n := 0) X (by decide +kernel) 0 rfl ?_
      refine g_iconst (n := 2) (x := (2 : Int32)) X (by decide +kernel) (by decide) ?_
      refine g_aload_n (n := 0) X (by decide +kernel) 0 rfl ?_
      refine g_getI X (by decide +kernel) fl11_199 ho ?_
      obtain ⟨h4, e3, E⟩ := bp_E E
      refine g_callV0 (st := []) X [.int (2 : Int32), .int (h.1 o 11)] (by decide +kernel) ml11_225 ho rfl rfl (by decide) (Nat.le_of_ble_eq_true rfl) (c11_addsFault hK o (2 : Int32) (h.1 o 11) h ho e3) ?_
      refine g_aload_n (n := 0) X (by decide +kernel) 0 rfl ?_
      refine g_iconst (n := 0) (x := (0 : Int32)) X (by decide +kernel) (by decide) ?_
      obtain ⟨h5, eh5, E⟩ := lt_E E
      refine g_putZ X (by decide +kernel) fp11_229 rfl rfl ho eh5 ?_
      exact w11_takeName_J40 X hK o a1 h5 ho E
  · refine g_icmp_eq_f (off := 8) (tgt := 13) X (by decide +kernel) (by decide) c1 ?_
    refine g_aload_n (n := 0) X (by decide +kernel) 0 rfl ?_
    obtain ⟨y8, h7, e6, E⟩ := bd_E E
    refine g_callV1 (st := []) X [] (by decide +kernel) ml11_221 ho rfl rfl (by decide) (Nat.le_of_ble_eq_true rfl) (c11_fails hK o h ho e6) ?_
    obtain ⟨c9, E⟩ := gd_E E
    obtain ⟨rfl, rfl⟩ := rt_E E
    exact g_zreturn X (by decide +kernel) (isB_n c9)
-- AskedNamesModel.full
def f11_full (K : Ly) (n : Nat) (o : Nat) (a1 : Int32) (a2 : Int32) (a3 : Int32) (h : Hp) : Option Hp :=
    gd (inb a1 122) <|
    if (h.1 (o + 9) a1.toNatClampNeg) = a2 then (
    bp (f11_addsFault K n o (3 : Int32) a3 h) fun h4 =>
    some h4)
    else (
    some h)
set_option maxHeartbeats 4000000 in
set_option maxRecDepth 20000 in
theorem c11_full {sp : Sp} {K : Ly} {sz n : Nat} (hK : LyOk K) (o : Nat) (a1 : Int32) (a2 : Int32) (a3 : Int32) (h : Hp) (ho : K o = some (.inl 11)) {hf : Hp} (E : f11_full K n o a1 a2 a3 h = some hf) : Con sp y11_full prog_13_method_23_code 4 none 2 0 0 [.ref o, .int a1, .int a2, .int a3] sz K h none sz K hf := by
  refine Con.of (by decide) (Nat.le_of_ble_eq_true rfl) (fun Γ X _ => ?_)
  show Go Γ (0, 0) 0 [(0, .ref o), (1, .int a1), (2, .int a2), (3, .int a3)] [] sz K h
  unfold f11_full at E
  refine g_aload_n (n := 0) X (by decide +kernel) 0 rfl ?_
  refine g_getS X (by decide +kernel) fl11_35 ho ?_
  refine g_iload_n (n := 1) X (by decide +kernel) 1 rfl ?_
  obtain ⟨c1, E⟩ := gd_E E
  refine g_iald X (by decide +kernel) (ly hK ho fl11_35 rfl) c1 ?_
  refine g_iload_n (n := 2) X (by decide +kernel) 2 rfl ?_
  rcases it_E E with ⟨c2, E⟩ | ⟨c2, E⟩
  · refine g_icmp_ne_f (off := 9) (tgt := 16) X (by decide +kernel) (by decide) (fun z => z c2) ?_
    refine g_aload_n (n := 0) X (by decide +kernel) 0 rfl ?_
    refine g_iconst (n := 3) (x := (3 : Int32)) X (by decide +kernel) (by decide) ?_
    refine g_iload_n (n := 3) X (by decide +kernel) 3 rfl ?_
    obtain ⟨h4, e3, E⟩ := bp_E E
    refine g_callV0 (st := []) X [.int (3 : Int32), .int a3] (by decide +kernel) ml11_225 ho rfl rfl (by decide) (Nat.le_of_ble_eq_true rfl) (c11_addsFault hK o (3 : Int32) a3 h ho e3) ?_
    obtain rfl := Option.some.inj E
    exact g_return X (by decide +kernel)
  · refine g_icmp_ne_t (off := 9) (tgt := 16) X (by decide +kernel) (by decide) c2 ?_
    obtain rfl := Option.some.inj E
    exact g_return X (by decide +kernel)
-- AskedNamesModel.keepRow
def f11_keepRow_J51 (K : Ly) (n : Nat)  (x0 : Nat) (x1 : Int32) (x4 : Int32) (x5 : Int32) (h : Hp) : Option Hp :=
    gd (inb x1 122) <|
    lt (sI h (x0 + 9) x1.toNatClampNeg (f11_lesser x4 (x5 + (1 : Int32)))) fun h10 =>
    some h10
def f11_keepRow_L11 (K : Ly) (n : Nat) (x0 : Nat) (x1 : Int32) (x2 : Int32) (x3 : Int32) (x4 : Int32) (x5 : Int32)   : Nat → Int32 → Hp → Option Hp
  | 0, _, _ => none
  | k + 1, x6, h =>
    if x3 ≤ x6 then (
    f11_keepRow_J51 K n x0 x1 x4 x5 h)
    else (
    if x4 ≤ x5 then (
    f11_keepRow_J51 K n x0 x1 x4 x5 h)
    else (
    gd (inb x6 4) <|
    gd (inb ((x2 + (x3 * x5)) + x6) 122) <|
    lt (sI h (x0 + 9) ((x2 + (x3 * x5)) + x6).toNatClampNeg (h.1 (x0 + 10) x6.toNatClampNeg)) fun h7 =>
    lt (x6 + (1 : Int32)) fun x6_8 =>
    f11_keepRow_L11 K n x0 x1 x2 x3 x4 x5  k x6_8 h7))
def f11_keepRow (K : Ly) (n : Nat) (o : Nat) (a1 : Int32) (a2 : Int32) (a3 : Int32) (a4 : Int32) (h : Hp) : Option Hp :=
    gd (inb a1 122) <|
    lt (h.1 (o + 9) a1.toNatClampNeg) fun x5_2 =>
    f11_keepRow_L11 K n o a1 a2 a3 a4 x5_2 n (0 : Int32) h
set_option maxHeartbeats 4000000 in
set_option maxRecDepth 20000 in
theorem w11_keepRow_J51 {Γ : CT} {sp : Sp} {K : Ly} {sz n : Nat} {hf : Hp}   (X : Ok Γ sp prog_13_method_24_code Rc11 7 none 2 none sz K hf) (hK : LyOk K) (x0 : Nat) (x1 : Int32) (x4 : Int32) (x5 : Int32) (h : Hp)  (px0 : K x0 = some (.inl 11)) (E : f11_keepRow_J51 K n x0 x1 x4 x5 h = some hf) : Go Γ (0, 0) 51 [(0, .ref x0), (1, .int x1), (4, .int x4), (5, .int x5)] [] sz K h := by
  unfold f11_keepRow_J51 at E
  refine g_aload_n (n := 0) X (by decide +kernel) 0 rfl ?_
  refine g_getS X (by decide +kernel) fl11_35 px0 ?_
  refine g_iload_n (n := 1) X (by decide +kernel) 1 rfl ?_
  refine g_iload (n := 4) X (by decide +kernel) 2 rfl ?_
  refine g_iload (n := 5) X (by decide +kernel) 3 rfl ?_
  refine g_iconst (n := 1) (x := (1 : Int32)) X (by decide +kernel) (by decide) ?_
  refine g_iadd X (by decide +kernel) ?_
  refine g_callS1 (st := [.int x1, .ref (x0 + 9)]) X [.int x4, .int (x5 + (1 : Int32))] (by decide +kernel) ml11_253 (by decide) (Nat.le_of_ble_eq_true rfl) (c11_lesser hK x4 (x5 + (1 : Int32)) h ) ?_
  obtain ⟨c9, E⟩ := gd_E E
  obtain ⟨h10, eh10, E⟩ := lt_E E
  refine g_iast X (by decide +kernel) (ly hK px0 fl11_35 rfl) c9 eh10 ?_
  obtain rfl := Option.some.inj E
  exact g_return X (by decide +kernel)
set_option maxHeartbeats 4000000 in
set_option maxRecDepth 20000 in
theorem w11_keepRow_L11 {Γ : CT} {sp : Sp} {K : Ly} {sz n : Nat} {hf : Hp}  (X : Ok Γ sp prog_13_method_24_code Rc11 7 none 2 none sz K hf) (hK : LyOk K) (x0 : Nat) (x1 : Int32) (x2 : Int32) (x3 : Int32) (x4 : Int32) (x5 : Int32)  (px0 : K x0 = some (.inl 11))  : ∀ (k : Nat) (x6 : Int32) (h : Hp), f11_keepRow_L11 K n x0 x1 x2 x3 x4 x5  k x6 h = some hf → Go Γ (0, 0) 11 [(0, .ref x0), (1, .int x1), (2, .int x2), (3, .int x3), (4, .int x4), (5, .int x5), (6, .int x6)] [] sz K h := by
  intro k
  induction k with
  | zero => intro x6 h E; cases E
  | succ k ih =>
    intro x6 h E
    unfold f11_keepRow_L11 at E
    refine g_iload (n := 6) X (by decide +kernel) 6 rfl ?_
    refine g_iload_n (n := 3) X (by decide +kernel) 3 rfl ?_
    rcases it_E E with ⟨c3, E⟩ | ⟨c3, E⟩
    · refine g_icmp_ge_t (off := 37) (tgt := 51) X (by decide +kernel) (by decide) c3 ?_
      refine g_sub [0, 1, 4, 5] rfl ?_
      exact w11_keepRow_J51 X hK x0 x1 x4 x5 h px0 E
    · refine g_icmp_ge_f (off := 37) (tgt := 51) X (by decide +kernel) (by decide) c3 ?_
      refine g_iload (n := 5) X (by decide +kernel) 5 rfl ?_
      refine g_iload (n := 4) X (by decide +kernel) 4 rfl ?_
      rcases it_E E with ⟨c4, E⟩ | ⟨c4, E⟩
      · refine g_icmp_ge_t (off := 30) (tgt := 51) X (by decide +kernel) (by decide) c4 ?_
        refine g_sub [0, 1, 4, 5] rfl ?_
        exact w11_keepRow_J51 X hK x0 x1 x4 x5 h px0 E
      · refine g_icmp_ge_f (off := 30) (tgt := 51) X (by decide +kernel) (by decide) c4 ?_
        refine g_aload_n (n := 0) X (by decide +kernel) 0 rfl ?_
        refine g_getS X (by decide +kernel) fl11_35 px0 ?_
        refine g_iload_n (n := 2) X (by decide +kernel) 2 rfl ?_
        refine g_iload_n (n := 3) X (by decide +kernel) 3 rfl ?_
        refine g_iload (n := 5) X (by decide +kernel) 5 rfl ?_
        refine g_imul X (by decide +kernel) ?_
        refine g_iadd X (by decide +kernel) ?_
        refine g_iload (n := 6) X (by decide +kernel) 6 rfl ?_
        refine g_iadd X (by decide +kernel) ?_
        refine g_aload_n (n := 0) X (by decide +kernel) 0 rfl ?_
        refine g_getS X (by decide +kernel) fl11_38 px0 ?_
        refine g_iload (n := 6) X (by decide +kernel) 6 rfl ?_
        obtain ⟨c5, E⟩ := gd_E E
        refine g_iald X (by decide +kernel) (ly hK px0 fl11_38 rfl) c5 ?_
        obtain ⟨c6, E⟩ := gd_E E
        obtain ⟨h7, eh7, E⟩ := lt_E E
        refine g_iast X (by decide +kernel) (ly hK px0 fl11_35 rfl) c6 eh7 ?_
        obtain ⟨x6_8, ex6_8, E⟩ := lt_E E
        refine s_iinc (i := 6) (n := 1) (y := x6_8) X (by decide +kernel) 6 rfl (by decide) ex6_8 (ls_next (by decide) (Or.inr rfl) (ls_next (by decide) (Or.inr rfl) (ls_next (by decide) (Or.inr rfl) (ls_next (by decide) (Or.inr rfl) (ls_next (by decide) (Or.inr rfl) (ls_next (by decide) (Or.inr rfl) (ls_here ls_end))))))) ?_
        refine g_goto (off := -37) (tgt := 11) X (by decide +kernel) (by decide) ?_
        exact ih x6_8 h7  E
set_option maxHeartbeats 4000000 in
set_option maxRecDepth 20000 in
theorem c11_keepRow {sp : Sp} {K : Ly} {sz n : Nat} (hK : LyOk K) (o : Nat) (a1 : Int32) (a2 : Int32) (a3 : Int32) (a4 : Int32) (h : Hp) (ho : K o = some (.inl 11)) {hf : Hp} (E : f11_keepRow K n o a1 a2 a3 a4 h = some hf) : Con sp y11_keepRow prog_13_method_24_code 7 none 2 0 0 [.ref o, .int a1, .int a2, .int a3, .int a4] sz K h none sz K hf := by
  refine Con.of (by decide) (Nat.le_of_ble_eq_true rfl) (fun Γ X _ => ?_)
  show Go Γ (0, 0) 0 [(0, .ref o), (1, .int a1), (2, .int a2), (3, .int a3), (4, .int a4)] [] sz K h
  unfold f11_keepRow at E
  refine g_aload_n (n := 0) X (by decide +kernel) 0 rfl ?_
  refine g_getS X (by decide +kernel) fl11_35 ho ?_
  refine g_iload_n (n := 1) X (by decide +kernel) 1 rfl ?_
  obtain ⟨c1, E⟩ := gd_E E
  refine g_iald X (by decide +kernel) (ly hK ho fl11_35 rfl) c1 ?_
  obtain ⟨x5_2, ex5_2, E⟩ := lt_E E
  refine s_istore (i := 5) X (by decide +kernel) (by decide) ex5_2 (ls_next (by decide) (Or.inr rfl) (ls_next (by decide) (Or.inr rfl) (ls_next (by decide) (Or.inr rfl) (ls_next (by decide) (Or.inr rfl) (ls_next (by decide) (Or.inr rfl) (ls_ins ls_end)))))) ?_
  refine g_iconst (n := 0) (x := (0 : Int32)) X (by decide +kernel) (by decide) ?_
  refine s_istore (i := 6) X (by decide +kernel) (by decide) rfl (ls_next (by decide) (Or.inr rfl) (ls_next (by decide) (Or.inr rfl) (ls_next (by decide) (Or.inr rfl) (ls_next (by decide) (Or.inr rfl) (ls_next (by decide) (Or.inr rfl) (ls_next (by decide) (Or.inr rfl) (ls_ins ls_end))))))) ?_
  exact w11_keepRow_L11 X hK o a1 a2 a3 a4 x5_2 ho n (0 : Int32) h E
-- AskedNamesModel.isOf
def f11_isOf_J20 (K : Ly) (n : Nat)  (x0 : Nat) (x1 : Int32) (x2 : Int32) (h : Hp) : Option (Int32) :=
    if x1 = (h.1 (x0 + 10) (1 : Int32).toNatClampNeg) then (
    some (if x2 = (h.1 (x0 + 10) (0 : Int32).toNatClampNeg) then (1 : Int32) else (0 : Int32)))
    else (
    some (0 : Int32))
def f11_isOf_J40 (K : Ly) (n : Nat)   (h : Hp) : Option (Int32) :=
    some (1 : Int32)
def f11_isOf (K : Ly) (n : Nat) (o : Nat) (a1 : Int32) (a2 : Int32) (h : Hp) : Option (Int32) :=
    if a1 = (h.1 (o + 10) (0 : Int32).toNatClampNeg) then (
    if a2 = (h.1 (o + 10) (1 : Int32).toNatClampNeg) then (
    f11_isOf_J40 K n h)
    else (
    f11_isOf_J20 K n o a1 a2 h))
    else (
    f11_isOf_J20 K n o a1 a2 h)
set_option maxHeartbeats 4000000 in
set_option maxRecDepth 20000 in
theorem w11_isOf_J20 {Γ : CT} {sp : Sp} {K : Ly} {sz n : Nat} {v : Int32} {h : Hp}   (X : Ok Γ sp prog_13_method_26_code Rc11 3 (some (.boolean)) 1 (some (.int v)) sz K h) (hK : LyOk K) (x0 : Nat) (x1 : Int32) (x2 : Int32)   (px0 : K x0 = some (.inl 11)) (E : f11_isOf_J20 K n x0 x1 x2 h = some v) : Go Γ (0, 0) 20 [(0, .ref x0), (1, .int x1), (2, .int x2)] [] sz K h := by
  unfold f11_isOf_J20 at E
  refine g_iload_n (n := 1) X (by decide +kernel) 1 rfl ?_
  refine g_aload_n (n := 0) X (by decide +kernel) 0 rfl ?_
  refine g_getS X (by decide +kernel) fl11_38 px0 ?_
  refine g_iconst (n := 1) (x := (1 : Int32)) X (by decide +kernel) (by decide) ?_
  refine g_iald X (by decide +kernel) (ly hK px0 fl11_38 rfl) (by decide) ?_
  rcases it_E E with ⟨c3, E⟩ | ⟨c3, E⟩
  · refine g_icmp_ne_f (off := 17) (tgt := 44) X (by decide +kernel) (by decide) (fun z => z c3) ?_
    refine g_iload_n (n := 2) X (by decide +kernel) 2 rfl ?_
    refine g_aload_n (n := 0) X (by decide +kernel) 0 rfl ?_
    refine g_getS X (by decide +kernel) fl11_38 px0 ?_
    refine g_iconst (n := 0) (x := (0 : Int32)) X (by decide +kernel) (by decide) ?_
    refine g_iald X (by decide +kernel) (ly hK px0 fl11_38 rfl) (by decide) ?_
    have hJ : Go Γ (0, 0) 45 [] [.int (if x2 = (h.1 (x0 + 10) (0 : Int32).toNatClampNeg) then (1 : Int32) else (0 : Int32))] sz K h := by
      obtain rfl := Option.some.inj E
      exact g_zreturn X (by decide +kernel) (by (repeat' split) <;> rfl)
    clear E
    by_cases c4 : x2 = (h.1 (x0 + 10) (0 : Int32).toNatClampNeg)
    · rw [if_pos c4] at hJ
      refine g_icmp_ne_f (off := 7) (tgt := 44) X (by decide +kernel) (by decide) (fun z => z c4) ?_
      refine g_iconst (n := 1) (x := (1 : Int32)) X (by decide +kernel) (by decide) ?_
      refine g_goto (off := 4) (tgt := 45) X (by decide +kernel) (by decide) ?_
      refine g_sub [] rfl ?_
      exact hJ
    · rw [if_neg c4] at hJ
      refine g_icmp_ne_t (off := 7) (tgt := 44) X (by decide +kernel) (by decide) c4 ?_
      refine g_iconst (n := 0) (x := (0 : Int32)) X (by decide +kernel) (by decide) ?_
      refine g_sub [] rfl ?_
      exact hJ
  · refine g_icmp_ne_t (off := 17) (tgt := 44) X (by decide +kernel) (by decide) c3 ?_
    refine g_iconst (n := 0) (x := (0 : Int32)) X (by decide +kernel) (by decide) ?_
    obtain rfl := Option.some.inj E
    exact g_zreturn X (by decide +kernel) rfl
set_option maxHeartbeats 4000000 in
set_option maxRecDepth 20000 in
theorem w11_isOf_J40 {Γ : CT} {sp : Sp} {K : Ly} {sz n : Nat} {v : Int32} {h : Hp}   (X : Ok Γ sp prog_13_method_26_code Rc11 3 (some (.boolean)) 1 (some (.int v)) sz K h) (hK : LyOk K)     (E : f11_isOf_J40 K n h = some v) : Go Γ (0, 0) 40 [] [] sz K h := by
  unfold f11_isOf_J40 at E
  refine g_iconst (n := 1) (x := (1 : Int32)) X (by decide +kernel) (by decide) ?_
  refine g_goto (off := 4) (tgt := 45) X (by decide +kernel) (by decide) ?_
  obtain rfl := Option.some.inj E
  exact g_zreturn X (by decide +kernel) rfl
set_option maxHeartbeats 4000000 in
set_option maxRecDepth 20000 in
theorem c11_isOf {sp : Sp} {K : Ly} {sz n : Nat} (hK : LyOk K) (o : Nat) (a1 : Int32) (a2 : Int32) (h : Hp) (ho : K o = some (.inl 11)) {v : Int32} (E : f11_isOf K n o a1 a2 h = some v) : Con sp y11_isOf prog_13_method_26_code 3 (some (.boolean)) 1 0 0 [.ref o, .int a1, .int a2] sz K h (some (.int v)) sz K h := by
  refine Con.of (by decide) (Nat.le_of_ble_eq_true rfl) (fun Γ X _ => ?_)
  show Go Γ (0, 0) 0 [(0, .ref o), (1, .int a1), (2, .int a2)] [] sz K h
  unfold f11_isOf at E
  refine g_iload_n (n := 1) X (by decide +kernel) 1 rfl ?_
  refine g_aload_n (n := 0) X (by decide +kernel) 0 rfl ?_
  refine g_getS X (by decide +kernel) fl11_38 ho ?_
  refine g_iconst (n := 0) (x := (0 : Int32)) X (by decide +kernel) (by decide) ?_
  refine g_iald X (by decide +kernel) (ly hK ho fl11_38 rfl) (by decide) ?_
  rcases it_E E with ⟨c1, E⟩ | ⟨c1, E⟩
  · refine g_icmp_ne_f (off := 13) (tgt := 20) X (by decide +kernel) (by decide) (fun z => z c1) ?_
    refine g_iload_n (n := 2) X (by decide +kernel) 2 rfl ?_
    refine g_aload_n (n := 0) X (by decide +kernel) 0 rfl ?_
    refine g_getS X (by decide +kernel) fl11_38 ho ?_
    refine g_iconst (n := 1) (x := (1 : Int32)) X (by decide +kernel) (by decide) ?_
    refine g_iald X (by decide +kernel) (ly hK ho fl11_38 rfl) (by decide) ?_
    rcases it_E E with ⟨c2, E⟩ | ⟨c2, E⟩
    · refine g_icmp_eq_t (off := 23) (tgt := 40) X (by decide +kernel) (by decide) c2 ?_
      refine g_sub [] rfl ?_
      exact w11_isOf_J40 X hK  E
    · refine g_icmp_eq_f (off := 23) (tgt := 40) X (by decide +kernel) (by decide) c2 ?_
      exact w11_isOf_J20 X hK o a1 a2 ho E
  · refine g_icmp_ne_t (off := 13) (tgt := 20) X (by decide +kernel) (by decide) c1 ?_
    exact w11_isOf_J20 X hK o a1 a2 ho E
-- AskedNamesModel.keepLink
def f11_keepLink_J49 (K : Ly) (n : Nat)  (x0 : Nat) (x1 : Int32) (h : Hp) : Option Hp :=
    if (h.1 (x0 + 9) (2 : Int32).toNatClampNeg) ≤ x1 then (
    bp (f11_keepRow K n x0 (2 : Int32) (11 : Int32) (3 : Int32) (15 : Int32) h) fun h10 =>
    some h10)
    else (
    gd (inb (((11 : Int32) + ((3 : Int32) * x1)) + (2 : Int32)) 122) <|
    lt (sI h (x0 + 9) (((11 : Int32) + ((3 : Int32) * x1)) + (2 : Int32)).toNatClampNeg (h.1 (x0 + 10) (2 : Int32).toNatClampNeg)) fun h12 =>
    some h12)
def f11_keepLink_L2 (K : Ly) (n : Nat) (x0 : Nat) (h : Hp)  : Nat → Int32 → Option Hp
  | 0, _ => none
  | k + 1, x1 =>
    if (h.1 (x0 + 9) (2 : Int32).toNatClampNeg) ≤ x1 then (
    f11_keepLink_J49 K n x0 x1 h)
    else (
    gd (inb ((11 : Int32) + ((3 : Int32) * x1)) 122) <|
    gd (inb (((11 : Int32) + ((3 : Int32) * x1)) + (1 : Int32)) 122) <|
    bp (f11_isOf K n x0 (h.1 (x0 + 9) ((11 : Int32) + ((3 : Int32) * x1)).toNatClampNeg) (h.1 (x0 + 9) (((11 : Int32) + ((3 : Int32) * x1)) + (1 : Int32)).toNatClampNeg) h) fun y5 =>
    if y5 = 0 then (
    lt (x1 + (1 : Int32)) fun x1_7 =>
    f11_keepLink_L2 K n x0 h  k x1_7)
    else (
    f11_keepLink_J49 K n x0 x1 h))
def f11_keepLink (K : Ly) (n : Nat) (o : Nat) (h : Hp) : Option Hp :=
    f11_keepLink_L2 K n o h n (0 : Int32)
set_option maxHeartbeats 4000000 in
set_option maxRecDepth 20000 in
theorem w11_keepLink_J49 {Γ : CT} {sp : Sp} {K : Ly} {sz n : Nat} {hf : Hp}   (X : Ok Γ sp prog_13_method_25_code Rc11 2 none 3 none sz K hf) (hK : LyOk K) (x0 : Nat) (x1 : Int32) (h : Hp)  (px0 : K x0 = some (.inl 11)) (E : f11_keepLink_J49 K n x0 x1 h = some hf) : Go Γ (0, 0) 49 [(0, .ref x0), (1, .int x1)] [] sz K h := by
  unfold f11_keepLink_J49 at E
  refine g_iload_n (n := 1) X (by decide +kernel) 1 rfl ?_
  refine g_aload_n (n := 0) X (by decide +kernel) 0 rfl ?_
  refine g_getS X (by decide +kernel) fl11_35 px0 ?_
  refine g_iconst (n := 2) (x := (2 : Int32)) X (by decide +kernel) (by decide) ?_
  refine g_iald X (by decide +kernel) (ly hK px0 fl11_35 rfl) (by decide) ?_
  rcases it_E E with ⟨c8, E⟩ | ⟨c8, E⟩
  · refine g_icmp_ge_t (off := 25) (tgt := 81) X (by decide +kernel) (by decide) c8 ?_
    refine g_aload_n (n := 0) X (by decide +kernel) 0 rfl ?_
    refine g_iconst (n := 2) (x := (2 : Int32)) X (by decide +kernel) (by decide) ?_
    refine g_bipush (n := 11) (x := (11 : Int32)) X (by decide +kernel) (by decide) ?_
    refine g_iconst (n := 3) (x := (3 : Int32)) X (by decide +kernel) (by decide) ?_
    refine g_bipush (n := 15) (x := (15 : Int32)) X (by decide +kernel) (by decide) ?_
    obtain ⟨h10, e9, E⟩ := bp_E E
    refine g_callV0 (st := []) X [.int (2 : Int32), .int (11 : Int32), .int (3 : Int32), .int (15 : Int32)] (by decide +kernel) ml11_259 px0 rfl rfl (by decide) (Nat.le_of_ble_eq_true rfl) (c11_keepRow hK x0 (2 : Int32) (11 : Int32) (3 : Int32) (15 : Int32) h px0 e9) ?_
    obtain rfl := Option.some.inj E
    exact g_return X (by decide +kernel)
  · refine g_icmp_ge_f (off := 25) (tgt := 81) X (by decide +kernel) (by decide) c8 ?_
    refine g_aload_n (n := 0) X (by decide +kernel) 0 rfl ?_
    refine g_getS X (by decide +kernel) fl11_35 px0 ?_
    refine g_bipush (n := 11) (x := (11 : Int32)) X (by decide +kernel) (by decide) ?_
    refine g_iconst (n := 3) (x := (3 : Int32)) X (by decide +kernel) (by decide) ?_
    refine g_iload_n (n := 1) X (by decide +kernel) 1 rfl ?_
    refine g_imul X (by decide +kernel) ?_
    refine g_iadd X (by decide +kernel) ?_
    refine g_iconst (n := 2) (x := (2 : Int32)) X (by decide +kernel) (by decide) ?_
    refine g_iadd X (by decide +kernel) ?_
    refine g_aload_n (n := 0) X (by decide +kernel) 0 rfl ?_
    refine g_getS X (by decide +kernel) fl11_38 px0 ?_
    refine g_iconst (n := 2) (x := (2 : Int32)) X (by decide +kernel) (by decide) ?_
    refine g_iald X (by decide +kernel) (ly hK px0 fl11_38 rfl) (by decide) ?_
    obtain ⟨c11, E⟩ := gd_E E
    obtain ⟨h12, eh12, E⟩ := lt_E E
    refine g_iast X (by decide +kernel) (ly hK px0 fl11_35 rfl) c11 eh12 ?_
    refine g_goto (off := 13) (tgt := 91) X (by decide +kernel) (by decide) ?_
    obtain rfl := Option.some.inj E
    exact g_return X (by decide +kernel)
set_option maxHeartbeats 4000000 in
set_option maxRecDepth 20000 in
theorem w11_keepLink_L2 {Γ : CT} {sp : Sp} {K : Ly} {sz n : Nat} {hf : Hp}  (X : Ok Γ sp prog_13_method_25_code Rc11 2 none 3 none sz K hf) (hK : LyOk K) (x0 : Nat) (h : Hp) (px0 : K x0 = some (.inl 11))  : ∀ (k : Nat) (x1 : Int32), f11_keepLink_L2 K n x0 h  k x1 = some hf → Go Γ (0, 0) 2 [(0, .ref x0), (1, .int x1)] [] sz K h := by
  intro k
  induction k with
  | zero => intro x1 E; cases E
  | succ k ih =>
    intro x1 E
    unfold f11_keepLink_L2 at E
    refine g_iload_n (n := 1) X (by decide +kernel) 1 rfl ?_
    refine g_aload_n (n := 0) X (by decide +kernel) 0 rfl ?_
    refine g_getS X (by decide +kernel) fl11_35 px0 ?_
    refine g_iconst (n := 2) (x := (2 : Int32)) X (by decide +kernel) (by decide) ?_
    refine g_iald X (by decide +kernel) (ly hK px0 fl11_35 rfl) (by decide) ?_
    rcases it_E E with ⟨c1, E⟩ | ⟨c1, E⟩
    · refine g_icmp_ge_t (off := 40) (tgt := 49) X (by decide +kernel) (by decide) c1 ?_
      exact w11_keepLink_J49 X hK x0 x1 h px0 E
    · refine g_icmp_ge_f (off := 40) (tgt := 49) X (by decide +kernel) (by decide) c1 ?_
      refine g_aload_n (n := 0) X (by decide +kernel) 0 rfl ?_
      refine g_aload_n (n := 0) X (by decide +kernel) 0 rfl ?_
      refine g_getS X (by decide +kernel) fl11_35 px0 ?_
      refine g_bipush (n := 11) (x := (11 : Int32)) X (by decide +kernel) (by decide) ?_
      refine g_iconst (n := 3) (x := (3 : Int32)) X (by decide +kernel) (by decide) ?_
      refine g_iload_n (n := 1) X (by decide +kernel) 1 rfl ?_
      refine g_imul X (by decide +kernel) ?_
      refine g_iadd X (by decide +kernel) ?_
      obtain ⟨c2, E⟩ := gd_E E
      refine g_iald X (by decide +kernel) (ly hK px0 fl11_35 rfl) c2 ?_
      refine g_aload_n (n := 0) X (by decide +kernel) 0 rfl ?_
      refine g_getS X (by decide +kernel) fl11_35 px0 ?_
      refine g_bipush (n := 11) (x := (11 : Int32)) X (by decide +kernel) (by decide) ?_
      refine g_iconst (n := 3) (x := (3 : Int32)) X (by decide +kernel) (by decide) ?_
      refine g_iload_n (n := 1) X (by decide +kernel) 1 rfl ?_
      refine g_imul X (by decide +kernel) ?_
      refine g_iadd X (by decide +kernel) ?_
      refine g_iconst (n := 1) (x := (1 : Int32)) X (by decide +kernel) (by decide) ?_
      refine g_iadd X (by decide +kernel) ?_
      obtain ⟨c3, E⟩ := gd_E E
      refine g_iald X (by decide +kernel) (ly hK px0 fl11_35 rfl) c3 ?_
      obtain ⟨y5, e4, E⟩ := bp_E E
      refine g_callV1 (st := []) X [.int (h.1 (x0 + 9) ((11 : Int32) + ((3 : Int32) * x1)).toNatClampNeg), .int (h.1 (x0 + 9) (((11 : Int32) + ((3 : Int32) * x1)) + (1 : Int32)).toNatClampNeg)] (by decide +kernel) ml11_256 px0 rfl rfl (by decide) (Nat.le_of_ble_eq_true rfl) (c11_isOf hK x0 (h.1 (x0 + 9) ((11 : Int32) + ((3 : Int32) * x1)).toNatClampNeg) (h.1 (x0 + 9) (((11 : Int32) + ((3 : Int32) * x1)) + (1 : Int32)).toNatClampNeg) h px0 e4) ?_
      rcases it_E E with ⟨c6, E⟩ | ⟨c6, E⟩
      · refine g_if_ne_f (off := 9) (tgt := 49) X (by decide +kernel) (by decide) (fun z => z c6) ?_
        obtain ⟨x1_7, ex1_7, E⟩ := lt_E E
        refine s_iinc (i := 1) (n := 1) (y := x1_7) X (by decide +kernel) 1 rfl (by decide) ex1_7 (ls_next (by decide) (Or.inr rfl) (ls_here ls_end)) ?_
        refine g_goto (off := -44) (tgt := 2) X (by decide +kernel) (by decide) ?_
        exact ih x1_7  E
      · refine g_if_ne_t (off := 9) (tgt := 49) X (by decide +kernel) (by decide) c6 ?_
        exact w11_keepLink_J49 X hK x0 x1 h px0 E
set_option maxHeartbeats 4000000 in
set_option maxRecDepth 20000 in
theorem c11_keepLink {sp : Sp} {K : Ly} {sz n : Nat} (hK : LyOk K) (o : Nat) (h : Hp) (ho : K o = some (.inl 11)) {hf : Hp} (E : f11_keepLink K n o h = some hf) : Con sp y11_keepLink prog_13_method_25_code 2 none 3 0 0 [.ref o] sz K h none sz K hf := by
  refine Con.of (by decide) (Nat.le_of_ble_eq_true rfl) (fun Γ X _ => ?_)
  show Go Γ (0, 0) 0 [(0, .ref o)] [] sz K h
  unfold f11_keepLink at E
  refine g_iconst (n := 0) (x := (0 : Int32)) X (by decide +kernel) (by decide) ?_
  refine s_istore_n (n := 1) (i := 1) X (by decide +kernel) rfl (by decide) rfl (ls_next (by decide) (Or.inr rfl) (ls_ins ls_end)) ?_
  exact w11_keepLink_L2 X hK o h ho n (0 : Int32) E
-- AskedNamesModel.netLine
def f11_netLine_J90 (K : Ly) (n : Nat)  (s0 : Nat) (s1 : Int32) (s2 : Int32) (h : Hp) : Option (Int32 × Hp) :=
    gd (inb s1 122) <|
    lt (sI h s0 s1.toNatClampNeg s2) fun h71 =>
    some ((1 : Int32), h71)
def f11_netLine_J59 (K : Ly) (n : Nat)  (x0 : Nat) (s0 : Int32) (h : Hp) : Option (Int32 × Hp) :=
    if (h.1 x0 21) = 0 then (
    gd (inb s0 122) <|
    f11_netLine_J90 K n (x0 + 9) s0 (h.1 (x0 + 9) s0.toNatClampNeg) h)
    else (
    f11_netLine_J90 K n (x0 + 9) s0 (h.1 (x0 + 10) (0 : Int32).toNatClampNeg) h)
def f11_netLine_J38 (K : Ly) (n : Nat)  (x0 : Nat) (x1 : Int64) (s0 : Nat) (s1 : Int32) (s2 : Int32) (s3 : Int32) (h : Hp) : Option (Int32 × Hp) :=
    bd (f11_take K n s0 s1 s2 s3 h) fun y47 h46 =>
    if y47 = 0 then (
    some ((0 : Int32), h46))
    else (
    f11_netLine_J59 K n x0 (if (lg_cmp x1 (474315253107 : Int64)) = 0 then (0 : Int32) else (1 : Int32)) h46)
def f11_netLine_J16 (K : Ly) (n : Nat)  (x0 : Nat) (x1 : Int64) (h : Hp) : Option (Int32 × Hp) :=
    bp (f11_token K n x0 h) fun h42 =>
    f11_netLine_J38 K n x0 x1 x0 (0 : Int32) (1 : Int32) (if (lg_cmp x1 (474315253107 : Int64)) = 0 then (6 : Int32) else (99 : Int32)) h42
def f11_netLine_J326 (K : Ly) (n : Nat)  (x0 : Nat) (x1 : Int64) (s0 : Nat) (s1 : Int32) (h : Hp) : Option (Int32 × Hp) :=
    bd (f11_take K n s0 s1 (0 : Int32) (99 : Int32) h) fun y75 h74 =>
    if y75 = 0 then (
    some ((0 : Int32), h74))
    else (
    if (lg_cmp x1 (491496240229 : Int64)) = 0 then (
    bp (f11_keepRow K n x0 (3 : Int32) (56 : Int32) (4 : Int32) (12 : Int32) h74) fun h79 =>
    some ((1 : Int32), h79))
    else (
    bp (f11_keepRow K n x0 (4 : Int32) (104 : Int32) (3 : Int32) (6 : Int32) h74) fun h81 =>
    some ((1 : Int32), h81)))
def f11_netLine_J312 (K : Ly) (n : Nat)  (x0 : Nat) (x1 : Int64) (h : Hp) : Option (Int32 × Hp) :=
    f11_netLine_J326 K n x0 x1 x0 (if (lg_cmp x1 (491496240229 : Int64)) = 0 then (3 : Int32) else (2 : Int32)) h
def f11_netLine_J265 (K : Ly) (n : Nat)  (x0 : Nat) (x1 : Int64) (x3 : Int32) (s0 : Nat) (s1 : Int32) (s2 : Int32) (h : Hp) : Option (Int32 × Hp) :=
    bp (f11_full K n s0 s1 s2 x3 h) fun h54 =>
    bp (f11_token K n x0 h54) fun h56 =>
    bd (f11_takeNode K n x0 (0 : Int32) (-1 : Int32) h56) fun y59 h58 =>
    if y59 = 0 then (
    some ((0 : Int32), h58))
    else (
    bd (f11_takeName K n x0 (1 : Int32) h58) fun y63 h62 =>
    if y63 = 0 then (
    some ((0 : Int32), h62))
    else (
    if (lg_cmp x1 (491496240229 : Int64)) = 0 then (
    bd (f11_takeNode K n x0 (2 : Int32) (h62.1 (x0 + 10) (0 : Int32).toNatClampNeg) h62) fun y68 h67 =>
    if y68 = 0 then (
    some ((0 : Int32), h67))
    else (
    f11_netLine_J312 K n x0 x1 h67))
    else (
    f11_netLine_J312 K n x0 x1 h62)))
def f11_netLine_J250 (K : Ly) (n : Nat)  (x0 : Nat) (x1 : Int64) (x3 : Int32) (s0 : Nat) (s1 : Int32) (h : Hp) : Option (Int32 × Hp) :=
    f11_netLine_J265 K n x0 x1 x3 s0 s1 (if (lg_cmp x1 (491496240229 : Int64)) = 0 then (12 : Int32) else (6 : Int32)) h
def f11_netLine_J236 (K : Ly) (n : Nat)  (x0 : Nat) (x1 : Int64) (x3 : Int32) (h : Hp) : Option (Int32 × Hp) :=
    f11_netLine_J250 K n x0 x1 x3 x0 (if (lg_cmp x1 (491496240229 : Int64)) = 0 then (3 : Int32) else (4 : Int32)) h
def f11_netLine (K : Ly) (n : Nat) (o : Nat) (a1 : Int64) (a3 : Int32) (h : Hp) : Option (Int32 × Hp) :=
    if (lg_cmp a1 (474315253107 : Int64)) = 0 then (
    f11_netLine_J16 K n o a1 h)
    else (
    if (lg_cmp a1 (1818846821 : Int64)) = 0 then (
    f11_netLine_J16 K n o a1 h)
    else (
    if (lg_cmp a1 (1919905645 : Int64)) = 0 then (
    bp (f11_token K n o h) fun h5 =>
    bd (f11_takeNode K n o (0 : Int32) (-1 : Int32) h5) fun y8 h7 =>
    if y8 = 0 then (
    some ((0 : Int32), h7))
    else (
    bd (f11_take K n o (1 : Int32) (0 : Int32) (4 : Int32) h7) fun y12 h11 =>
    if y12 = 0 then (
    some ((0 : Int32), h11))
    else (
    if (h11.1 o 21) = 0 then (
    some ((1 : Int32), h11))
    else (
    gd (inb ((5 : Int32) + (h11.1 (o + 10) (0 : Int32).toNatClampNeg)) 122) <|
    lt (sI h11 (o + 9) ((5 : Int32) + (h11.1 (o + 10) (0 : Int32).toNatClampNeg)).toNatClampNeg (h11.1 (o + 10) (1 : Int32).toNatClampNeg)) fun h16 =>
    some ((1 : Int32), h16)))))
    else (
    if (lg_cmp a1 (1818848875 : Int64)) = 0 then (
    bp (f11_token K n o h) fun h19 =>
    bd (f11_takeNode K n o (0 : Int32) (-1 : Int32) h19) fun y22 h21 =>
    if y22 = 0 then (
    some ((0 : Int32), h21))
    else (
    bd (f11_takeNode K n o (1 : Int32) (h21.1 (o + 10) (0 : Int32).toNatClampNeg) h21) fun y26 h25 =>
    if y26 = 0 then (
    some ((0 : Int32), h25))
    else (
    bd (f11_take K n o (2 : Int32) (1 : Int32) (9 : Int32) h25) fun y30 h29 =>
    if y30 = 0 then (
    some ((0 : Int32), h29))
    else (
    if (h29.1 o 21) = 0 then (
    some ((1 : Int32), h29))
    else (
    bp (f11_keepLink K n o h29) fun h34 =>
    some ((1 : Int32), h34))))))
    else (
    if (lg_cmp a1 (491496240229 : Int64)) = 0 then (
    f11_netLine_J236 K n o a1 a3 h)
    else (
    if (lg_cmp a1 (495623239269 : Int64)) = 0 then (
    f11_netLine_J236 K n o a1 a3 h)
    else (
    bd (f11_fails K n o h) fun y39 h38 =>
    gd (isB y39) <|
    some (y39, h38)))))))
set_option maxHeartbeats 4000000 in
set_option maxRecDepth 20000 in
theorem w11_netLine_J90 {Γ : CT} {sp : Sp} {K : Ly} {sz n : Nat} {v : Int32} {hf : Hp}   (X : Ok Γ sp prog_13_method_27_code Rc11 5 (some (.boolean)) 5 (some (.int v)) sz K hf) (hK : LyOk K) (s0 : Nat) (s1 : Int32) (s2 : Int32) (h : Hp)  (ps0 : K s0 = some (.inr (0, 122))) (E : f11_netLine_J90 K n s0 s1 s2 h = some (v, hf)) : Go Γ (0, 0) 90 [] [.int s2, .int s1, .ref s0] sz K h := by
  unfold f11_netLine_J90 at E
  obtain ⟨c70, E⟩ := gd_E E
  obtain ⟨h71, eh71, E⟩ := lt_E E
  refine g_iast X (by decide +kernel) ps0 c70 eh71 ?_
  refine g_iconst (n := 1) (x := (1 : Int32)) X (by decide +kernel) (by decide) ?_
  obtain ⟨rfl, rfl⟩ := rt_E E
  exact g_zreturn X (by decide +kernel) rfl
set_option maxHeartbeats 4000000 in
set_option maxRecDepth 20000 in
theorem w11_netLine_J59 {Γ : CT} {sp : Sp} {K : Ly} {sz n : Nat} {v : Int32} {hf : Hp}   (X : Ok Γ sp prog_13_method_27_code Rc11 5 (some (.boolean)) 5 (some (.int v)) sz K hf) (hK : LyOk K) (x0 : Nat) (s0 : Int32) (h : Hp)  (px0 : K x0 = some (.inl 11)) (E : f11_netLine_J59 K n x0 s0 h = some (v, hf)) : Go Γ (0, 0) 59 [(0, .ref x0)] [.int s0] sz K h := by
  unfold f11_netLine_J59 at E
  refine s_istore (i := 4) X (by decide +kernel) (by decide) rfl (ls_next (by decide) (Or.inr rfl) (ls_ins ls_end)) ?_
  refine g_aload_n (n := 0) X (by decide +kernel) 0 rfl ?_
  refine g_getS X (by decide +kernel) fl11_35 px0 ?_
  refine g_iload (n := 4) X (by decide +kernel) 1 rfl ?_
  refine g_aload_n (n := 0) X (by decide +kernel) 0 rfl ?_
  refine g_getI X (by decide +kernel) fl11_229 px0 ?_
  rcases it_E E with ⟨c51, E⟩ | ⟨c51, E⟩
  · refine g_if_eq_t (off := 12) (tgt := 83) X (by decide +kernel) (by decide) c51 ?_
    refine g_aload_n (n := 0) X (by decide +kernel) 0 rfl ?_
    refine g_getS X (by decide +kernel) fl11_35 px0 ?_
    refine g_iload (n := 4) X (by decide +kernel) 1 rfl ?_
    obtain ⟨c52, E⟩ := gd_E E
    refine g_iald X (by decide +kernel) (ly hK px0 fl11_35 rfl) c52 ?_
    refine g_sub [] rfl ?_
    exact w11_netLine_J90 X hK (x0 + 9) s0 (h.1 (x0 + 9) s0.toNatClampNeg) h (ly hK px0 fl11_35 rfl) E
  · refine g_if_eq_f (off := 12) (tgt := 83) X (by decide +kernel) (by decide) c51 ?_
    refine g_aload_n (n := 0) X (by decide +kernel) 0 rfl ?_
    refine g_getS X (by decide +kernel) fl11_38 px0 ?_
    refine g_iconst (n := 0) (x := (0 : Int32)) X (by decide +kernel) (by decide) ?_
    refine g_iald X (by decide +kernel) (ly hK px0 fl11_38 rfl) (by decide) ?_
    refine g_goto (off := 10) (tgt := 90) X (by decide +kernel) (by decide) ?_
    refine g_sub [] rfl ?_
    exact w11_netLine_J90 X hK (x0 + 9) s0 (h.1 (x0 + 10) (0 : Int32).toNatClampNeg) h (ly hK px0 fl11_35 rfl) E
set_option maxHeartbeats 4000000 in
set_option maxRecDepth 20000 in
theorem w11_netLine_J38 {Γ : CT} {sp : Sp} {K : Ly} {sz n : Nat} {v : Int32} {hf : Hp}   (X : Ok Γ sp prog_13_method_27_code Rc11 5 (some (.boolean)) 5 (some (.int v)) sz K hf) (hK : LyOk K) (x0 : Nat) (x1 : Int64) (s0 : Nat) (s1 : Int32) (s2 : Int32) (s3 : Int32) (h : Hp)  (px0 : K x0 = some (.inl 11)) (ps0 : K s0 = some (.inl 11)) (E : f11_netLine_J38 K n x0 x1 s0 s1 s2 s3 h = some (v, hf)) : Go Γ (0, 0) 38 [(0, .ref x0), (1, .long x1)] [.int s3, .int s2, .int s1, .ref s0] sz K h := by
  unfold f11_netLine_J38 at E
  obtain ⟨y47, h46, e45, E⟩ := bd_E E
  refine g_callV1 (st := []) X [.int s1, .int s2, .int s3] (by decide +kernel) ml11_267 ps0 rfl rfl (by decide) (Nat.le_of_ble_eq_true rfl) (c11_take hK s0 s1 s2 s3 h ps0 e45) ?_
  rcases it_E E with ⟨c48, E⟩ | ⟨c48, E⟩
  · refine g_if_ne_f (off := 5) (tgt := 46) X (by decide +kernel) (by decide) (fun z => z c48) ?_
    refine g_iconst (n := 0) (x := (0 : Int32)) X (by decide +kernel) (by decide) ?_
    obtain ⟨rfl, rfl⟩ := rt_E E
    exact g_zreturn X (by decide +kernel) rfl
  · refine g_if_ne_t (off := 5) (tgt := 46) X (by decide +kernel) (by decide) c48 ?_
    refine g_lload_n (n := 1) X (by decide +kernel) 1 rfl ?_
    refine g_ldc2_w (index := 263) (x := (474315253107 : Int64)) X (by decide +kernel) (in_c7 24 rfl rfl) ?_
    refine g_lcmp X (by decide +kernel) ?_
    have hJ : Go Γ (0, 0) 59 [(0, .ref x0)] [.int (if (lg_cmp x1 (474315253107 : Int64)) = 0 then (0 : Int32) else (1 : Int32))] sz K h46 := by
      exact w11_netLine_J59 X hK x0 (if (lg_cmp x1 (474315253107 : Int64)) = 0 then (0 : Int32) else (1 : Int32)) h46 px0 E
    clear E
    by_cases c49 : (lg_cmp x1 (474315253107 : Int64)) = 0
    · rw [if_pos c49] at hJ
      refine g_if_ne_f (off := 7) (tgt := 58) X (by decide +kernel) (by decide) (fun z => z c49) ?_
      refine g_iconst (n := 0) (x := (0 : Int32)) X (by decide +kernel) (by decide) ?_
      refine g_goto (off := 4) (tgt := 59) X (by decide +kernel) (by decide) ?_
      refine g_sub [0] rfl ?_
      exact hJ
    · rw [if_neg c49] at hJ
      refine g_if_ne_t (off := 7) (tgt := 58) X (by decide +kernel) (by decide) c49 ?_
      refine g_iconst (n := 1) (x := (1 : Int32)) X (by decide +kernel) (by decide) ?_
      refine g_sub [0] rfl ?_
      exact hJ
set_option maxHeartbeats 4000000 in
set_option maxRecDepth 20000 in
theorem w11_netLine_J16 {Γ : CT} {sp : Sp} {K : Ly} {sz n : Nat} {v : Int32} {hf : Hp}   (X : Ok Γ sp prog_13_method_27_code Rc11 5 (some (.boolean)) 5 (some (.int v)) sz K hf) (hK : LyOk K) (x0 : Nat) (x1 : Int64) (h : Hp)  (px0 : K x0 = some (.inl 11)) (E : f11_netLine_J16 K n x0 x1 h = some (v, hf)) : Go Γ (0, 0) 16 [(0, .ref x0), (1, .long x1)] [] sz K h := by
  unfold f11_netLine_J16 at E
  refine g_aload_n (n := 0) X (by decide +kernel) 0 rfl ?_
  obtain ⟨h42, e41, E⟩ := bp_E E
  refine g_callV0 (st := []) X [] (by decide +kernel) ml11_233 px0 rfl rfl (by decide) (Nat.le_of_ble_eq_true rfl) (c11_token hK x0 h px0 e41) ?_
  refine g_aload_n (n := 0) X (by decide +kernel) 0 rfl ?_
  refine g_iconst (n := 0) (x := (0 : Int32)) X (by decide +kernel) (by decide) ?_
  refine g_iconst (n := 1) (x := (1 : Int32)) X (by decide +kernel) (by decide) ?_
  refine g_lload_n (n := 1) X (by decide +kernel) 1 rfl ?_
  refine g_ldc2_w (index := 263) (x := (474315253107 : Int64)) X (by decide +kernel) (in_c7 24 rfl rfl) ?_
  refine g_lcmp X (by decide +kernel) ?_
  have hJ : Go Γ (0, 0) 38 [(0, .ref x0), (1, .long x1)] [.int (if (lg_cmp x1 (474315253107 : Int64)) = 0 then (6 : Int32) else (99 : Int32)), .int (1 : Int32), .int (0 : Int32), .ref x0] sz K h42 := by
    exact w11_netLine_J38 X hK x0 x1 x0 (0 : Int32) (1 : Int32) (if (lg_cmp x1 (474315253107 : Int64)) = 0 then (6 : Int32) else (99 : Int32)) h42 px0 px0 E
  clear E
  by_cases c43 : (lg_cmp x1 (474315253107 : Int64)) = 0
  · rw [if_pos c43] at hJ
    refine g_if_ne_f (off := 8) (tgt := 36) X (by decide +kernel) (by decide) (fun z => z c43) ?_
    refine g_bipush (n := 6) (x := (6 : Int32)) X (by decide +kernel) (by decide) ?_
    refine g_goto (off := 5) (tgt := 38) X (by decide +kernel) (by decide) ?_
    exact hJ
  · rw [if_neg c43] at hJ
    refine g_if_ne_t (off := 8) (tgt := 36) X (by decide +kernel) (by decide) c43 ?_
    refine g_bipush (n := 99) (x := (99 : Int32)) X (by decide +kernel) (by decide) ?_
    exact hJ
set_option maxHeartbeats 4000000 in
set_option maxRecDepth 20000 in
theorem w11_netLine_J326 {Γ : CT} {sp : Sp} {K : Ly} {sz n : Nat} {v : Int32} {hf : Hp}   (X : Ok Γ sp prog_13_method_27_code Rc11 5 (some (.boolean)) 5 (some (.int v)) sz K hf) (hK : LyOk K) (x0 : Nat) (x1 : Int64) (s0 : Nat) (s1 : Int32) (h : Hp)  (px0 : K x0 = some (.inl 11)) (ps0 : K s0 = some (.inl 11)) (E : f11_netLine_J326 K n x0 x1 s0 s1 h = some (v, hf)) : Go Γ (0, 0) 326 [(0, .ref x0), (1, .long x1)] [.int s1, .ref s0] sz K h := by
  unfold f11_netLine_J326 at E
  refine g_iconst (n := 0) (x := (0 : Int32)) X (by decide +kernel) (by decide) ?_
  refine g_bipush (n := 99) (x := (99 : Int32)) X (by decide +kernel) (by decide) ?_
  obtain ⟨y75, h74, e73, E⟩ := bd_E E
  refine g_callV1 (st := []) X [.int s1, .int (0 : Int32), .int (99 : Int32)] (by decide +kernel) ml11_267 ps0 rfl rfl (by decide) (Nat.le_of_ble_eq_true rfl) (c11_take hK s0 s1 (0 : Int32) (99 : Int32) h ps0 e73) ?_
  rcases it_E E with ⟨c76, E⟩ | ⟨c76, E⟩
  · refine g_if_ne_f (off := 5) (tgt := 337) X (by decide +kernel) (by decide) (fun z => z c76) ?_
    refine g_iconst (n := 0) (x := (0 : Int32)) X (by decide +kernel) (by decide) ?_
    obtain ⟨rfl, rfl⟩ := rt_E E
    exact g_zreturn X (by decide +kernel) rfl
  · refine g_if_ne_t (off := 5) (tgt := 337) X (by decide +kernel) (by decide) c76 ?_
    refine g_lload_n (n := 1) X (by decide +kernel) 1 rfl ?_
    refine g_ldc2_w (index := 280) (x := (491496240229 : Int64)) X (by decide +kernel) (in_c7 66 rfl rfl) ?_
    refine g_lcmp X (by decide +kernel) ?_
    rcases it_E E with ⟨c77, E⟩ | ⟨c77, E⟩
    · refine g_if_ne_f (off := 16) (tgt := 358) X (by decide +kernel) (by decide) (fun z => z c77) ?_
      refine g_aload_n (n := 0) X (by decide +kernel) 0 rfl ?_
      refine g_iconst (n := 3) (x := (3 : Int32)) X (by decide +kernel) (by decide) ?_
      refine g_bipush (n := 56) (x := (56 : Int32)) X (by decide +kernel) (by decide) ?_
      refine g_iconst (n := 4) (x := (4 : Int32)) X (by decide +kernel) (by decide) ?_
      refine g_bipush (n := 12) (x := (12 : Int32)) X (by decide +kernel) (by decide) ?_
      obtain ⟨h79, e78, E⟩ := bp_E E
      refine g_callV0 (st := []) X [.int (3 : Int32), .int (56 : Int32), .int (4 : Int32), .int (12 : Int32)] (by decide +kernel) ml11_259 px0 rfl rfl (by decide) (Nat.le_of_ble_eq_true rfl) (c11_keepRow hK x0 (3 : Int32) (56 : Int32) (4 : Int32) (12 : Int32) h74 px0 e78) ?_
      refine g_goto (off := 13) (tgt := 368) X (by decide +kernel) (by decide) ?_
      refine g_iconst (n := 1) (x := (1 : Int32)) X (by decide +kernel) (by decide) ?_
      obtain ⟨rfl, rfl⟩ := rt_E E
      exact g_zreturn X (by decide +kernel) rfl
    · refine g_if_ne_t (off := 16) (tgt := 358) X (by decide +kernel) (by decide) c77 ?_
      refine g_aload_n (n := 0) X (by decide +kernel) 0 rfl ?_
      refine g_iconst (n := 4) (x := (4 : Int32)) X (by decide +kernel) (by decide) ?_
      refine g_bipush (n := 104) (x := (104 : Int32)) X (by decide +kernel) (by decide) ?_
      refine g_iconst (n := 3) (x := (3 : Int32)) X (by decide +kernel) (by decide) ?_
      refine g_bipush (n := 6) (x := (6 : Int32)) X (by decide +kernel) (by decide) ?_
      obtain ⟨h81, e80, E⟩ := bp_E E
      refine g_callV0 (st := []) X [.int (4 : Int32), .int (104 : Int32), .int (3 : Int32), .int (6 : Int32)] (by decide +kernel) ml11_259 px0 rfl rfl (by decide) (Nat.le_of_ble_eq_true rfl) (c11_keepRow hK x0 (4 : Int32) (104 : Int32) (3 : Int32) (6 : Int32) h74 px0 e80) ?_
      refine g_iconst (n := 1) (x := (1 : Int32)) X (by decide +kernel) (by decide) ?_
      obtain ⟨rfl, rfl⟩ := rt_E E
      exact g_zreturn X (by decide +kernel) rfl
set_option maxHeartbeats 4000000 in
set_option maxRecDepth 20000 in
theorem w11_netLine_J312 {Γ : CT} {sp : Sp} {K : Ly} {sz n : Nat} {v : Int32} {hf : Hp}   (X : Ok Γ sp prog_13_method_27_code Rc11 5 (some (.boolean)) 5 (some (.int v)) sz K hf) (hK : LyOk K) (x0 : Nat) (x1 : Int64) (h : Hp)  (px0 : K x0 = some (.inl 11)) (E : f11_netLine_J312 K n x0 x1 h = some (v, hf)) : Go Γ (0, 0) 312 [(0, .ref x0), (1, .long x1)] [] sz K h := by
  unfold f11_netLine_J312 at E
  refine g_aload_n (n := 0) X (by decide +kernel) 0 rfl ?_
  refine g_lload_n (n := 1) X (by decide +kernel) 1 rfl ?_
  refine g_ldc2_w (index := 280) (x := (491496240229 : Int64)) X (by decide +kernel) (in_c7 66 rfl rfl) ?_
  refine g_lcmp X (by decide +kernel) ?_
  have hJ : Go Γ (0, 0) 326 [(0, .ref x0), (1, .long x1)] [.int (if (lg_cmp x1 (491496240229 : Int64)) = 0 then (3 : Int32) else (2 : Int32)), .ref x0] sz K h := by
    exact w11_netLine_J326 X hK x0 x1 x0 (if (lg_cmp x1 (491496240229 : Int64)) = 0 then (3 : Int32) else (2 : Int32)) h px0 px0 E
  clear E
  by_cases c72 : (lg_cmp x1 (491496240229 : Int64)) = 0
  · rw [if_pos c72] at hJ
    refine g_if_ne_f (off := 7) (tgt := 325) X (by decide +kernel) (by decide) (fun z => z c72) ?_
    refine g_iconst (n := 3) (x := (3 : Int32)) X (by decide +kernel) (by decide) ?_
    refine g_goto (off := 4) (tgt := 326) X (by decide +kernel) (by decide) ?_
    exact hJ
  · rw [if_neg c72] at hJ
    refine g_if_ne_t (off := 7) (tgt := 325) X (by decide +kernel) (by decide) c72 ?_
    refine g_iconst (n := 2) (x := (2 : Int32)) X (by decide +kernel) (by decide) ?_
    exact hJ
set_option maxHeartbeats 4000000 in
set_option maxRecDepth 20000 in
theorem w11_netLine_J265 {Γ : CT} {sp : Sp} {K : Ly} {sz n : Nat} {v : Int32} {hf : Hp}   (X : Ok Γ sp prog_13_method_27_code Rc11 5 (some (.boolean)) 5 (some (.int v)) sz K hf) (hK : LyOk K) (x0 : Nat) (x1 : Int64) (x3 : Int32) (s0 : Nat) (s1 : Int32) (s2 : Int32) (h : Hp)  (px0 : K x0 = some (.inl 11)) (ps0 : K s0 = some (.inl 11)) (E : f11_netLine_J265 K n x0 x1 x3 s0 s1 s2 h = some (v, hf)) : Go Γ (0, 0) 265 [(0, .ref x0), (1, .long x1), (3, .int x3)] [.int s2, .int s1, .ref s0] sz K h := by
  unfold f11_netLine_J265 at E
  refine g_iload_n (n := 3) X (by decide +kernel) 2 rfl ?_
  obtain ⟨h54, e53, E⟩ := bp_E E
  refine g_callV0 (st := []) X [.int s1, .int s2, .int x3] (by decide +kernel) ml11_284 ps0 rfl rfl (by decide) (Nat.le_of_ble_eq_true rfl) (c11_full hK s0 s1 s2 x3 h ps0 e53) ?_
  refine g_aload_n (n := 0) X (by decide +kernel) 0 rfl ?_
  obtain ⟨h56, e55, E⟩ := bp_E E
  refine g_callV0 (st := []) X [] (by decide +kernel) ml11_233 px0 rfl rfl (by decide) (Nat.le_of_ble_eq_true rfl) (c11_token hK x0 h54 px0 e55) ?_
  refine g_aload_n (n := 0) X (by decide +kernel) 0 rfl ?_
  refine g_iconst (n := 0) (x := (0 : Int32)) X (by decide +kernel) (by decide) ?_
  refine g_iconst (n := -1) (x := (-1 : Int32)) X (by decide +kernel) (by decide) ?_
  obtain ⟨y59, h58, e57, E⟩ := bd_E E
  refine g_callV1 (st := []) X [.int (0 : Int32), .int (-1 : Int32)] (by decide +kernel) ml11_272 px0 rfl rfl (by decide) (Nat.le_of_ble_eq_true rfl) (c11_takeNode hK x0 (0 : Int32) (-1 : Int32) h56 px0 e57) ?_
  rcases it_E E with ⟨c60, E⟩ | ⟨c60, E⟩
  · refine g_if_eq_t (off := 56) (tgt := 335) X (by decide +kernel) (by decide) c60 ?_
    refine g_iconst (n := 0) (x := (0 : Int32)) X (by decide +kernel) (by decide) ?_
    obtain ⟨rfl, rfl⟩ := rt_E E
    exact g_zreturn X (by decide +kernel) rfl
  · refine g_if_eq_f (off := 56) (tgt := 335) X (by decide +kernel) (by decide) c60 ?_
    refine g_aload_n (n := 0) X (by decide +kernel) 0 rfl ?_
    refine g_iconst (n := 1) (x := (1 : Int32)) X (by decide +kernel) (by decide) ?_
    obtain ⟨y63, h62, e61, E⟩ := bd_E E
    refine g_callV1 (st := []) X [.int (1 : Int32)] (by decide +kernel) ml11_288 px0 rfl rfl (by decide) (Nat.le_of_ble_eq_true rfl) (c11_takeName hK x0 (1 : Int32) h58 px0 e61) ?_
    rcases it_E E with ⟨c64, E⟩ | ⟨c64, E⟩
    · refine g_if_eq_t (off := 48) (tgt := 335) X (by decide +kernel) (by decide) c64 ?_
      refine g_iconst (n := 0) (x := (0 : Int32)) X (by decide +kernel) (by decide) ?_
      obtain ⟨rfl, rfl⟩ := rt_E E
      exact g_zreturn X (by decide +kernel) rfl
    · refine g_if_eq_f (off := 48) (tgt := 335) X (by decide +kernel) (by decide) c64 ?_
      refine g_lload_n (n := 1) X (by decide +kernel) 1 rfl ?_
      refine g_ldc2_w (index := 280) (x := (491496240229 : Int64)) X (by decide +kernel) (in_c7 66 rfl rfl) ?_
      refine g_lcmp X (by decide +kernel) ?_
      rcases it_E E with ⟨c65, E⟩ | ⟨c65, E⟩
      · refine g_if_ne_f (off := 17) (tgt := 312) X (by decide +kernel) (by decide) (fun z => z c65) ?_
        refine g_aload_n (n := 0) X (by decide +kernel) 0 rfl ?_
        refine g_iconst (n := 2) (x := (2 : Int32)) X (by decide +kernel) (by decide) ?_
        refine g_aload_n (n := 0) X (by decide +kernel) 0 rfl ?_
        refine g_getS X (by decide +kernel) fl11_38 px0 ?_
        refine g_iconst (n := 0) (x := (0 : Int32)) X (by decide +kernel) (by decide) ?_
        refine g_iald X (by decide +kernel) (ly hK px0 fl11_38 rfl) (by decide) ?_
        obtain ⟨y68, h67, e66, E⟩ := bd_E E
        refine g_callV1 (st := []) X [.int (2 : Int32), .int (h62.1 (x0 + 10) (0 : Int32).toNatClampNeg)] (by decide +kernel) ml11_272 px0 rfl rfl (by decide) (Nat.le_of_ble_eq_true rfl) (c11_takeNode hK x0 (2 : Int32) (h62.1 (x0 + 10) (0 : Int32).toNatClampNeg) h62 px0 e66) ?_
        rcases it_E E with ⟨c69, E⟩ | ⟨c69, E⟩
        · refine g_if_eq_t (off := 26) (tgt := 335) X (by decide +kernel) (by decide) c69 ?_
          refine g_iconst (n := 0) (x := (0 : Int32)) X (by decide +kernel) (by decide) ?_
          obtain ⟨rfl, rfl⟩ := rt_E E
          exact g_zreturn X (by decide +kernel) rfl
        · refine g_if_eq_f (off := 26) (tgt := 335) X (by decide +kernel) (by decide) c69 ?_
          refine g_sub [0, 1] rfl ?_
          exact w11_netLine_J312 X hK x0 x1 h67 px0 E
      · refine g_if_ne_t (off := 17) (tgt := 312) X (by decide +kernel) (by decide) c65 ?_
        refine g_sub [0, 1] rfl ?_
        exact w11_netLine_J312 X hK x0 x1 h62 px0 E
set_option maxHeartbeats 4000000 in
set_option maxRecDepth 20000 in
theorem w11_netLine_J250 {Γ : CT} {sp : Sp} {K : Ly} {sz n : Nat} {v : Int32} {hf : Hp}   (X : Ok Γ sp prog_13_method_27_code Rc11 5 (some (.boolean)) 5 (some (.int v)) sz K hf) (hK : LyOk K) (x0 : Nat) (x1 : Int64) (x3 : Int32) (s0 : Nat) (s1 : Int32) (h : Hp)  (px0 : K x0 = some (.inl 11)) (ps0 : K s0 = some (.inl 11)) (E : f11_netLine_J250 K n x0 x1 x3 s0 s1 h = some (v, hf)) : Go Γ (0, 0) 250 [(0, .ref x0), (1, .long x1), (3, .int x3)] [.int s1, .ref s0] sz K h := by
  unfold f11_netLine_J250 at E
  refine g_lload_n (n := 1) X (by decide +kernel) 1 rfl ?_
  refine g_ldc2_w (index := 280) (x := (491496240229 : Int64)) X (by decide +kernel) (in_c7 66 rfl rfl) ?_
  refine g_lcmp X (by decide +kernel) ?_
  have hJ : Go Γ (0, 0) 265 [(0, .ref x0), (1, .long x1), (3, .int x3)] [.int (if (lg_cmp x1 (491496240229 : Int64)) = 0 then (12 : Int32) else (6 : Int32)), .int s1, .ref s0] sz K h := by
    exact w11_netLine_J265 X hK x0 x1 x3 s0 s1 (if (lg_cmp x1 (491496240229 : Int64)) = 0 then (12 : Int32) else (6 : Int32)) h px0 ps0 E
  clear E
  by_cases c50 : (lg_cmp x1 (491496240229 : Int64)) = 0
  · rw [if_pos c50] at hJ
    refine g_if_ne_f (off := 8) (tgt := 263) X (by decide +kernel) (by decide) (fun z => z c50) ?_
    refine g_bipush (n := 12) (x := (12 : Int32)) X (by decide +kernel) (by decide) ?_
    refine g_goto (off := 5) (tgt := 265) X (by decide +kernel) (by decide) ?_
    exact hJ
  · rw [if_neg c50] at hJ
    refine g_if_ne_t (off := 8) (tgt := 263) X (by decide +kernel) (by decide) c50 ?_
    refine g_bipush (n := 6) (x := (6 : Int32)) X (by decide +kernel) (by decide) ?_
    exact hJ
set_option maxHeartbeats 4000000 in
set_option maxRecDepth 20000 in
theorem w11_netLine_J236 {Γ : CT} {sp : Sp} {K : Ly} {sz n : Nat} {v : Int32} {hf : Hp}   (X : Ok Γ sp prog_13_method_27_code Rc11 5 (some (.boolean)) 5 (some (.int v)) sz K hf) (hK : LyOk K) (x0 : Nat) (x1 : Int64) (x3 : Int32) (h : Hp)  (px0 : K x0 = some (.inl 11)) (E : f11_netLine_J236 K n x0 x1 x3 h = some (v, hf)) : Go Γ (0, 0) 236 [(0, .ref x0), (1, .long x1), (3, .int x3)] [] sz K h := by
  unfold f11_netLine_J236 at E
  refine g_aload_n (n := 0) X (by decide +kernel) 0 rfl ?_
  refine g_lload_n (n := 1) X (by decide +kernel) 1 rfl ?_
  refine g_ldc2_w (index := 280) (x := (491496240229 : Int64)) X (by decide +kernel) (in_c7 66 rfl rfl) ?_
  refine g_lcmp X (by decide +kernel) ?_
  have hJ : Go Γ (0, 0) 250 [(0, .ref x0), (1, .long x1), (3, .int x3)] [.int (if (lg_cmp x1 (491496240229 : Int64)) = 0 then (3 : Int32) else (4 : Int32)), .ref x0] sz K h := by
    exact w11_netLine_J250 X hK x0 x1 x3 x0 (if (lg_cmp x1 (491496240229 : Int64)) = 0 then (3 : Int32) else (4 : Int32)) h px0 px0 E
  clear E
  by_cases c44 : (lg_cmp x1 (491496240229 : Int64)) = 0
  · rw [if_pos c44] at hJ
    refine g_if_ne_f (off := 7) (tgt := 249) X (by decide +kernel) (by decide) (fun z => z c44) ?_
    refine g_iconst (n := 3) (x := (3 : Int32)) X (by decide +kernel) (by decide) ?_
    refine g_goto (off := 4) (tgt := 250) X (by decide +kernel) (by decide) ?_
    exact hJ
  · rw [if_neg c44] at hJ
    refine g_if_ne_t (off := 7) (tgt := 249) X (by decide +kernel) (by decide) c44 ?_
    refine g_iconst (n := 4) (x := (4 : Int32)) X (by decide +kernel) (by decide) ?_
    exact hJ
set_option maxHeartbeats 4000000 in
set_option maxRecDepth 20000 in
theorem c11_netLine {sp : Sp} {K : Ly} {sz n : Nat} (hK : LyOk K) (o : Nat) (a1 : Int64) (a3 : Int32) (h : Hp) (ho : K o = some (.inl 11)) {v : Int32} {hf : Hp} (E : f11_netLine K n o a1 a3 h = some (v, hf)) : Con sp y11_netLine prog_13_method_27_code 5 (some (.boolean)) 5 0 0 [.ref o, .long a1, .int a3] sz K h (some (.int v)) sz K hf := by
  refine Con.of (by decide) (Nat.le_of_ble_eq_true rfl) (fun Γ X _ => ?_)
  show Go Γ (0, 0) 0 [(0, .ref o), (1, .long a1), (3, .int a3)] [] sz K h
  unfold f11_netLine at E
  refine g_lload_n (n := 1) X (by decide +kernel) 1 rfl ?_
  refine g_ldc2_w (index := 263) (x := (474315253107 : Int64)) X (by decide +kernel) (in_c7 24 rfl rfl) ?_
  refine g_lcmp X (by decide +kernel) ?_
  rcases it_E E with ⟨c1, E⟩ | ⟨c1, E⟩
  · refine g_if_eq_t (off := 11) (tgt := 16) X (by decide +kernel) (by decide) c1 ?_
    refine g_sub [0, 1] rfl ?_
    exact w11_netLine_J16 X hK o a1 h ho E
  · refine g_if_eq_f (off := 11) (tgt := 16) X (by decide +kernel) (by decide) c1 ?_
    refine g_lload_n (n := 1) X (by decide +kernel) 1 rfl ?_
    refine g_ldc2_w (index := 265) (x := (1818846821 : Int64)) X (by decide +kernel) (in_c7 25 rfl rfl) ?_
    refine g_lcmp X (by decide +kernel) ?_
    rcases it_E E with ⟨c2, E⟩ | ⟨c2, E⟩
    · refine g_if_ne_f (off := 80) (tgt := 93) X (by decide +kernel) (by decide) (fun z => z c2) ?_
      refine g_sub [0, 1] rfl ?_
      exact w11_netLine_J16 X hK o a1 h ho E
    · refine g_if_ne_t (off := 80) (tgt := 93) X (by decide +kernel) (by decide) c2 ?_
      refine g_lload_n (n := 1) X (by decide +kernel) 1 rfl ?_
      refine g_ldc2_w (index := 270) (x := (1919905645 : Int64)) X (by decide +kernel) (in_c7 42 rfl rfl) ?_
      refine g_lcmp X (by decide +kernel) ?_
      rcases it_E E with ⟨c3, E⟩ | ⟨c3, E⟩
      · refine g_if_ne_f (off := 56) (tgt := 154) X (by decide +kernel) (by decide) (fun z => z c3) ?_
        refine g_aload_n (n := 0) X (by decide +kernel) 0 rfl ?_
        obtain ⟨h5, e4, E⟩ := bp_E E
        refine g_callV0 (st := []) X [] (by decide +kernel) ml11_233 ho rfl rfl (by decide) (Nat.le_of_ble_eq_true rfl) (c11_token hK o h ho e4) ?_
        refine g_aload_n (n := 0) X (by decide +kernel) 0 rfl ?_
        refine g_iconst (n := 0) (x := (0 : Int32)) X (by decide +kernel) (by decide) ?_
        refine g_iconst (n := -1) (x := (-1 : Int32)) X (by decide +kernel) (by decide) ?_
        obtain ⟨y8, h7, e6, E⟩ := bd_E E
        refine g_callV1 (st := []) X [.int (0 : Int32), .int (-1 : Int32)] (by decide +kernel) ml11_272 ho rfl rfl (by decide) (Nat.le_of_ble_eq_true rfl) (c11_takeNode hK o (0 : Int32) (-1 : Int32) h5 ho e6) ?_
        rcases it_E E with ⟨c9, E⟩ | ⟨c9, E⟩
        · refine g_if_eq_t (off := 13) (tgt := 124) X (by decide +kernel) (by decide) c9 ?_
          refine g_iconst (n := 0) (x := (0 : Int32)) X (by decide +kernel) (by decide) ?_
          obtain ⟨rfl, rfl⟩ := rt_E E
          exact g_zreturn X (by decide +kernel) rfl
        · refine g_if_eq_f (off := 13) (tgt := 124) X (by decide +kernel) (by decide) c9 ?_
          refine g_aload_n (n := 0) X (by decide +kernel) 0 rfl ?_
          refine g_iconst (n := 1) (x := (1 : Int32)) X (by decide +kernel) (by decide) ?_
          refine g_iconst (n := 0) (x := (0 : Int32)) X (by decide +kernel) (by decide) ?_
          refine g_iconst (n := 4) (x := (4 : Int32)) X (by decide +kernel) (by decide) ?_
          obtain ⟨y12, h11, e10, E⟩ := bd_E E
          refine g_callV1 (st := []) X [.int (1 : Int32), .int (0 : Int32), .int (4 : Int32)] (by decide +kernel) ml11_267 ho rfl rfl (by decide) (Nat.le_of_ble_eq_true rfl) (c11_take hK o (1 : Int32) (0 : Int32) (4 : Int32) h7 ho e10) ?_
          rcases it_E E with ⟨c13, E⟩ | ⟨c13, E⟩
          · refine g_if_ne_f (off := 5) (tgt := 126) X (by decide +kernel) (by decide) (fun z => z c13) ?_
            refine g_iconst (n := 0) (x := (0 : Int32)) X (by decide +kernel) (by decide) ?_
            obtain ⟨rfl, rfl⟩ := rt_E E
            exact g_zreturn X (by decide +kernel) rfl
          · refine g_if_ne_t (off := 5) (tgt := 126) X (by decide +kernel) (by decide) c13 ?_
            refine g_aload_n (n := 0) X (by decide +kernel) 0 rfl ?_
            refine g_getI X (by decide +kernel) fl11_229 ho ?_
            rcases it_E E with ⟨c14, E⟩ | ⟨c14, E⟩
            · refine g_if_eq_t (off := 22) (tgt := 152) X (by decide +kernel) (by decide) c14 ?_
              refine g_iconst (n := 1) (x := (1 : Int32)) X (by decide +kernel) (by decide) ?_
              obtain ⟨rfl, rfl⟩ := rt_E E
              exact g_zreturn X (by decide +kernel) rfl
            · refine g_if_eq_f (off := 22) (tgt := 152) X (by decide +kernel) (by decide) c14 ?_
              refine g_aload_n (n := 0) X (by decide +kernel) 0 rfl ?_
              refine g_getS X (by decide +kernel) fl11_35 ho ?_
              refine g_iconst (n := 5) (x := (5 : Int32)) X (by decide +kernel) (by decide) ?_
              refine g_aload_n (n := 0) X (by decide +kernel) 0 rfl ?_
              refine g_getS X (by decide +kernel) fl11_38 ho ?_
              refine g_iconst (n := 0) (x := (0 : Int32)) X (by decide +kernel) (by decide) ?_
              refine g_iald X (by decide +kernel) (ly hK ho fl11_38 rfl) (by decide) ?_
              refine g_iadd X (by decide +kernel) ?_
              refine g_aload_n (n := 0) X (by decide +kernel) 0 rfl ?_
              refine g_getS X (by decide +kernel) fl11_38 ho ?_
              refine g_iconst (n := 1) (x := (1 : Int32)) X (by decide +kernel) (by decide) ?_
              refine g_iald X (by decide +kernel) (ly hK ho fl11_38 rfl) (by decide) ?_
              obtain ⟨c15, E⟩ := gd_E E
              obtain ⟨h16, eh16, E⟩ := lt_E E
              refine g_iast X (by decide +kernel) (ly hK ho fl11_35 rfl) c15 eh16 ?_
              refine g_iconst (n := 1) (x := (1 : Int32)) X (by decide +kernel) (by decide) ?_
              obtain ⟨rfl, rfl⟩ := rt_E E
              exact g_zreturn X (by decide +kernel) rfl
      · refine g_if_ne_t (off := 56) (tgt := 154) X (by decide +kernel) (by decide) c3 ?_
        refine g_lload_n (n := 1) X (by decide +kernel) 1 rfl ?_
        refine g_ldc2_w (index := 275) (x := (1818848875 : Int64)) X (by decide +kernel) (in_c7 50 rfl rfl) ?_
        refine g_lcmp X (by decide +kernel) ?_
        rcases it_E E with ⟨c17, E⟩ | ⟨c17, E⟩
        · refine g_if_ne_f (off := 56) (tgt := 215) X (by decide +kernel) (by decide) (fun z => z c17) ?_
          refine g_aload_n (n := 0) X (by decide +kernel) 0 rfl ?_
          obtain ⟨h19, e18, E⟩ := bp_E E
          refine g_callV0 (st := []) X [] (by decide +kernel) ml11_233 ho rfl rfl (by decide) (Nat.le_of_ble_eq_true rfl) (c11_token hK o h ho e18) ?_
          refine g_aload_n (n := 0) X (by decide +kernel) 0 rfl ?_
          refine g_iconst (n := 0) (x := (0 : Int32)) X (by decide +kernel) (by decide) ?_
          refine g_iconst (n := -1) (x := (-1 : Int32)) X (by decide +kernel) (by decide) ?_
          obtain ⟨y22, h21, e20, E⟩ := bd_E E
          refine g_callV1 (st := []) X [.int (0 : Int32), .int (-1 : Int32)] (by decide +kernel) ml11_272 ho rfl rfl (by decide) (Nat.le_of_ble_eq_true rfl) (c11_takeNode hK o (0 : Int32) (-1 : Int32) h19 ho e20) ?_
          rcases it_E E with ⟨c23, E⟩ | ⟨c23, E⟩
          · refine g_if_eq_t (off := 28) (tgt := 200) X (by decide +kernel) (by decide) c23 ?_
            refine g_iconst (n := 0) (x := (0 : Int32)) X (by decide +kernel) (by decide) ?_
            obtain ⟨rfl, rfl⟩ := rt_E E
            exact g_zreturn X (by decide +kernel) rfl
          · refine g_if_eq_f (off := 28) (tgt := 200) X (by decide +kernel) (by decide) c23 ?_
            refine g_aload_n (n := 0) X (by decide +kernel) 0 rfl ?_
            refine g_iconst (n := 1) (x := (1 : Int32)) X (by decide +kernel) (by decide) ?_
            refine g_aload_n (n := 0) X (by decide +kernel) 0 rfl ?_
            refine g_getS X (by decide +kernel) fl11_38 ho ?_
            refine g_iconst (n := 0) (x := (0 : Int32)) X (by decide +kernel) (by decide) ?_
            refine g_iald X (by decide +kernel) (ly hK ho fl11_38 rfl) (by decide) ?_
            obtain ⟨y26, h25, e24, E⟩ := bd_E E
            refine g_callV1 (st := []) X [.int (1 : Int32), .int (h21.1 (o + 10) (0 : Int32).toNatClampNeg)] (by decide +kernel) ml11_272 ho rfl rfl (by decide) (Nat.le_of_ble_eq_true rfl) (c11_takeNode hK o (1 : Int32) (h21.1 (o + 10) (0 : Int32).toNatClampNeg) h21 ho e24) ?_
            rcases it_E E with ⟨c27, E⟩ | ⟨c27, E⟩
            · refine g_if_eq_t (off := 14) (tgt := 200) X (by decide +kernel) (by decide) c27 ?_
              refine g_iconst (n := 0) (x := (0 : Int32)) X (by decide +kernel) (by decide) ?_
              obtain ⟨rfl, rfl⟩ := rt_E E
              exact g_zreturn X (by decide +kernel) rfl
            · refine g_if_eq_f (off := 14) (tgt := 200) X (by decide +kernel) (by decide) c27 ?_
              refine g_aload_n (n := 0) X (by decide +kernel) 0 rfl ?_
              refine g_iconst (n := 2) (x := (2 : Int32)) X (by decide +kernel) (by decide) ?_
              refine g_iconst (n := 1) (x := (1 : Int32)) X (by decide +kernel) (by decide) ?_
              refine g_bipush (n := 9) (x := (9 : Int32)) X (by decide +kernel) (by decide) ?_
              obtain ⟨y30, h29, e28, E⟩ := bd_E E
              refine g_callV1 (st := []) X [.int (2 : Int32), .int (1 : Int32), .int (9 : Int32)] (by decide +kernel) ml11_267 ho rfl rfl (by decide) (Nat.le_of_ble_eq_true rfl) (c11_take hK o (2 : Int32) (1 : Int32) (9 : Int32) h25 ho e28) ?_
              rcases it_E E with ⟨c31, E⟩ | ⟨c31, E⟩
              · refine g_if_ne_f (off := 5) (tgt := 202) X (by decide +kernel) (by decide) (fun z => z c31) ?_
                refine g_iconst (n := 0) (x := (0 : Int32)) X (by decide +kernel) (by decide) ?_
                obtain ⟨rfl, rfl⟩ := rt_E E
                exact g_zreturn X (by decide +kernel) rfl
              · refine g_if_ne_t (off := 5) (tgt := 202) X (by decide +kernel) (by decide) c31 ?_
                refine g_aload_n (n := 0) X (by decide +kernel) 0 rfl ?_
                refine g_getI X (by decide +kernel) fl11_229 ho ?_
                rcases it_E E with ⟨c32, E⟩ | ⟨c32, E⟩
                · refine g_if_eq_t (off := 7) (tgt := 213) X (by decide +kernel) (by decide) c32 ?_
                  refine g_iconst (n := 1) (x := (1 : Int32)) X (by decide +kernel) (by decide) ?_
                  obtain ⟨rfl, rfl⟩ := rt_E E
                  exact g_zreturn X (by decide +kernel) rfl
                · refine g_if_eq_f (off := 7) (tgt := 213) X (by decide +kernel) (by decide) c32 ?_
                  refine g_aload_n (n := 0) X (by decide +kernel) 0 rfl ?_
                  obtain ⟨h34, e33, E⟩ := bp_E E
                  refine g_callV0 (st := []) X [] (by decide +kernel) ml11_277 ho rfl rfl (by decide) (Nat.le_of_ble_eq_true rfl) (c11_keepLink hK o h29 ho e33) ?_
                  refine g_iconst (n := 1) (x := (1 : Int32)) X (by decide +kernel) (by decide) ?_
                  obtain ⟨rfl, rfl⟩ := rt_E E
                  exact g_zreturn X (by decide +kernel) rfl
        · refine g_if_ne_t (off := 56) (tgt := 215) X (by decide +kernel) (by decide) c17 ?_
          refine g_lload_n (n := 1) X (by decide +kernel) 1 rfl ?_
          refine g_ldc2_w (index := 280) (x := (491496240229 : Int64)) X (by decide +kernel) (in_c7 66 rfl rfl) ?_
          refine g_lcmp X (by decide +kernel) ?_
          rcases it_E E with ⟨c35, E⟩ | ⟨c35, E⟩
          · refine g_if_eq_t (off := 16) (tgt := 236) X (by decide +kernel) (by decide) c35 ?_
            exact w11_netLine_J236 X hK o a1 a3 h ho E
          · refine g_if_eq_f (off := 16) (tgt := 236) X (by decide +kernel) (by decide) c35 ?_
            refine g_lload_n (n := 1) X (by decide +kernel) 1 rfl ?_
            refine g_ldc2_w (index := 282) (x := (495623239269 : Int64)) X (by decide +kernel) (in_c7 67 rfl rfl) ?_
            refine g_lcmp X (by decide +kernel) ?_
            rcases it_E E with ⟨c36, E⟩ | ⟨c36, E⟩
            · refine g_if_eq_t (off := 8) (tgt := 236) X (by decide +kernel) (by decide) c36 ?_
              exact w11_netLine_J236 X hK o a1 a3 h ho E
            · refine g_if_eq_f (off := 8) (tgt := 236) X (by decide +kernel) (by decide) c36 ?_
              refine g_aload_n (n := 0) X (by decide +kernel) 0 rfl ?_
              obtain ⟨y39, h38, e37, E⟩ := bd_E E
              refine g_callV1 (st := []) X [] (by decide +kernel) ml11_221 ho rfl rfl (by decide) (Nat.le_of_ble_eq_true rfl) (c11_fails hK o h ho e37) ?_
              obtain ⟨c40, E⟩ := gd_E E
              obtain ⟨rfl, rfl⟩ := rt_E E
              exact g_zreturn X (by decide +kernel) (isB_n c40)
-- AskedNamesModel.deedBy
def f11_deedBy (o : Nat) (a1 : Int64) : Int32 :=
    (if (lg_cmp a1 (6386539 : Int64)) = 0 then (0 : Int32) else (if (lg_cmp a1 (440005915496 : Int64)) = 0 then (1 : Int32) else (if (lg_cmp a1 (2002872692 : Int64)) = 0 then (2 : Int32) else (if (lg_cmp a1 (6518132 : Int64)) = 0 then (3 : Int32) else (if (lg_cmp a1 (1835363940 : Int64)) = 0 then (4 : Int32) else (-1 : Int32))))))
set_option maxHeartbeats 4000000 in
set_option maxRecDepth 20000 in
theorem c11_deedBy {sp : Sp} {K : Ly} {sz : Nat} (hK : LyOk K) (o : Nat) (a1 : Int64) (h : Hp) (ho : K o = some (.inl 11)) : Con sp y11_deedBy prog_13_method_28_code 3 (some (.int)) 1 0 0 [.ref o, .long a1] sz K h (some (.int (f11_deedBy o a1))) sz K h := by
  obtain ⟨v, E⟩ : ∃ v, f11_deedBy o a1 = v := ⟨_, rfl⟩
  rw [E]
  refine Con.of (by decide) (Nat.le_of_ble_eq_true rfl) (fun Γ X _ => ?_)
  show Go Γ (0, 0) 0 [(0, .ref o), (1, .long a1)] [] sz K h
  unfold f11_deedBy at E
  refine g_lload_n (n := 1) X (by decide +kernel) 1 rfl ?_
  refine g_ldc2_w (index := 292) (x := (6386539 : Int64)) X (by decide +kernel) (in_c7 88 rfl rfl) ?_
  refine g_lcmp X (by decide +kernel) ?_
  have hJ : Go Γ (0, 0) 61 [] [.int (if (lg_cmp a1 (6386539 : Int64)) = 0 then (0 : Int32) else (if (lg_cmp a1 (440005915496 : Int64)) = 0 then (1 : Int32) else (if (lg_cmp a1 (2002872692 : Int64)) = 0 then (2 : Int32) else (if (lg_cmp a1 (6518132 : Int64)) = 0 then (3 : Int32) else (if (lg_cmp a1 (1835363940 : Int64)) = 0 then (4 : Int32) else (-1 : Int32))))))] sz K h := by
    subst E
    exact g_ireturn X (by decide +kernel)
  clear E
  by_cases c1 : (lg_cmp a1 (6386539 : Int64)) = 0
  · rw [if_pos c1] at hJ
    refine g_if_ne_f (off := 7) (tgt := 12) X (by decide +kernel) (by decide) (fun z => z c1) ?_
    refine g_iconst (n := 0) (x := (0 : Int32)) X (by decide +kernel) (by decide) ?_
    refine g_goto (off := 52) (tgt := 61) X (by decide +kernel) (by decide) ?_
    refine g_sub [] rfl ?_
    exact hJ
  · rw [if_neg c1] at hJ
    refine g_if_ne_t (off := 7) (tgt := 12) X (by decide +kernel) (by decide) c1 ?_
    refine g_lload_n (n := 1) X (by decide +kernel) 1 rfl ?_
    refine g_ldc2_w (index := 294) (x := (440005915496 : Int64)) X (by decide +kernel) (in_c7 89 rfl rfl) ?_
    refine g_lcmp X (by decide +kernel) ?_
    by_cases c2 : (lg_cmp a1 (440005915496 : Int64)) = 0
    · rw [if_pos c2] at hJ
      refine g_if_ne_f (off := 7) (tgt := 24) X (by decide +kernel) (by decide) (fun z => z c2) ?_
      refine g_iconst (n := 1) (x := (1 : Int32)) X (by decide +kernel) (by decide) ?_
      refine g_goto (off := 40) (tgt := 61) X (by decide +kernel) (by decide) ?_
      refine g_sub [] rfl ?_
      exact hJ
    · rw [if_neg c2] at hJ
      refine g_if_ne_t (off := 7) (tgt := 24) X (by decide +kernel) (by decide) c2 ?_
      refine g_lload_n (n := 1) X (by decide +kernel) 1 rfl ?_
      refine g_ldc2_w (index := 296) (x := (2002872692 : Int64)) X (by decide +kernel) (in_c7 90 rfl rfl) ?_
      refine g_lcmp X (by decide +kernel) ?_
      by_cases c3 : (lg_cmp a1 (2002872692 : Int64)) = 0
      · rw [if_pos c3] at hJ
        refine g_if_ne_f (off := 7) (tgt := 36) X (by decide +kernel) (by decide) (fun z => z c3) ?_
        refine g_iconst (n := 2) (x := (2 : Int32)) X (by decide +kernel) (by decide) ?_
        refine g_goto (off := 28) (tgt := 61) X (by decide +kernel) (by decide) ?_
        refine g_sub [] rfl ?_
        exact hJ
      · rw [if_neg c3] at hJ
        refine g_if_ne_t (off := 7) (tgt := 36) X (by decide +kernel) (by decide) c3 ?_
        refine g_lload_n (n := 1) X (by decide +kernel) 1 rfl ?_
        refine g_ldc2_w (index := 298) (x := (6518132 : Int64)) X (by decide +kernel) (in_c7 91 rfl rfl) ?_
        refine g_lcmp X (by decide +kernel) ?_
        by_cases c4 : (lg_cmp a1 (6518132 : Int64)) = 0
        · rw [if_pos c4] at hJ
          refine g_if_ne_f (off := 7) (tgt := 48) X (by decide +kernel) (by decide) (fun z => z c4) ?_
          refine g_iconst (n := 3) (x := (3 : Int32)) X (by decide +kernel) (by decide) ?_
          refine g_goto (off := 16) (tgt := 61) X (by decide +kernel) (by decide) ?_
          refine g_sub [] rfl ?_
          exact hJ
        · rw [if_neg c4] at hJ
          refine g_if_ne_t (off := 7) (tgt := 48) X (by decide +kernel) (by decide) c4 ?_
          refine g_lload_n (n := 1) X (by decide +kernel) 1 rfl ?_
          refine g_ldc2_w (index := 300) (x := (1835363940 : Int64)) X (by decide +kernel) (in_c7 92 rfl rfl) ?_
          refine g_lcmp X (by decide +kernel) ?_
          by_cases c5 : (lg_cmp a1 (1835363940 : Int64)) = 0
          · rw [if_pos c5] at hJ
            refine g_if_ne_f (off := 7) (tgt := 60) X (by decide +kernel) (by decide) (fun z => z c5) ?_
            refine g_iconst (n := 4) (x := (4 : Int32)) X (by decide +kernel) (by decide) ?_
            refine g_goto (off := 4) (tgt := 61) X (by decide +kernel) (by decide) ?_
            refine g_sub [] rfl ?_
            exact hJ
          · rw [if_neg c5] at hJ
            refine g_if_ne_t (off := 7) (tgt := 60) X (by decide +kernel) (by decide) c5 ?_
            refine g_iconst (n := -1) (x := (-1 : Int32)) X (by decide +kernel) (by decide) ?_
            refine g_sub [] rfl ?_
            exact hJ
-- AskedNamesModel.runLine
def f11_runLine_J105 (K : Ly) (n : Nat)  (x0 : Nat) (x4 : Int32) (h : Hp) : Option (Int32 × Hp) :=
    lt (sI h (x0 + 10) (0 : Int32).toNatClampNeg x4) fun h32 =>
    bp (f11_keepRow K n x0 (0 : Int32) (1 : Int32) (3 : Int32) (40 : Int32) h32) fun h34 =>
    some ((1 : Int32), h34)
def f11_runLine_J83 (K : Ly) (n : Nat)  (x0 : Nat) (x4 : Int32) (h : Hp) : Option (Int32 × Hp) :=
    if x4 ≤ (2 : Int32) then (
    f11_runLine_J105 K n x0 x4 h)
    else (
    bd (f11_takeNode K n x0 (2 : Int32) (h.1 (x0 + 10) (1 : Int32).toNatClampNeg) h) fun y30 h29 =>
    if y30 = 0 then (
    some ((0 : Int32), h29))
    else (
    f11_runLine_J105 K n x0 x4 h29))
def f11_runLine_J69 (K : Ly) (n : Nat)  (x0 : Nat) (x4 : Int32) (h : Hp) : Option (Int32 × Hp) :=
    if (2 : Int32) ≤ x4 then (
    f11_runLine_J83 K n x0 x4 h)
    else (
    bd (f11_takeName K n x0 (2 : Int32) h) fun y25 h24 =>
    if y25 = 0 then (
    some ((0 : Int32), h24))
    else (
    f11_runLine_J83 K n x0 x4 h24))
def f11_runLine_J54 (K : Ly) (n : Nat)  (x0 : Nat) (x4 : Int32) (h : Hp) : Option (Int32 × Hp) :=
    if x4 = (2 : Int32) then (
    f11_runLine_J69 K n x0 x4 h)
    else (
    bd (f11_takeNode K n x0 (1 : Int32) (-1 : Int32) h) fun y20 h19 =>
    if y20 = 0 then (
    some ((0 : Int32), h19))
    else (
    f11_runLine_J69 K n x0 x4 h19))
def f11_runLine (K : Ly) (n : Nat) (o : Nat) (a1 : Int64) (a3 : Int32) (h : Hp) : Option (Int32 × Hp) :=
    lt (f11_deedBy o a1) fun x4_1 =>
    if x4_1 = (-1 : Int32) then (
    bd (f11_fails K n o h) fun y5 h4 =>
    gd (isB y5) <|
    some (y5, h4))
    else (
    bp (f11_full K n o (0 : Int32) (40 : Int32) a3 h) fun h8 =>
    bp (f11_token K n o h8) fun h10 =>
    lt (sI h10 (o + 10) (2 : Int32).toNatClampNeg (-1 : Int32)) fun h11 =>
    if x4_1 = (2 : Int32) then (
    bd (f11_take K n o (1 : Int32) (1 : Int32) (20 : Int32) h11) fun y15 h14 =>
    if y15 = 0 then (
    some ((0 : Int32), h14))
    else (
    f11_runLine_J54 K n o x4_1 h14))
    else (
    f11_runLine_J54 K n o x4_1 h11))
set_option maxHeartbeats 4000000 in
set_option maxRecDepth 20000 in
theorem w11_runLine_J105 {Γ : CT} {sp : Sp} {K : Ly} {sz n : Nat} {v : Int32} {hf : Hp}   (X : Ok Γ sp prog_13_method_29_code Rc11 5 (some (.boolean)) 5 (some (.int v)) sz K hf) (hK : LyOk K) (x0 : Nat) (x4 : Int32) (h : Hp)  (px0 : K x0 = some (.inl 11)) (E : f11_runLine_J105 K n x0 x4 h = some (v, hf)) : Go Γ (0, 0) 105 [(0, .ref x0), (4, .int x4)] [] sz K h := by
  unfold f11_runLine_J105 at E
  refine g_aload_n (n := 0) X (by decide +kernel) 0 rfl ?_
  refine g_getS X (by decide +kernel) fl11_38 px0 ?_
  refine g_iconst (n := 0) (x := (0 : Int32)) X (by decide +kernel) (by decide) ?_
  refine g_iload (n := 4) X (by decide +kernel) 1 rfl ?_
  obtain ⟨h32, eh32, E⟩ := lt_E E
  refine g_iast X (by decide +kernel) (ly hK px0 fl11_38 rfl) (by decide) eh32 ?_
  refine g_aload_n (n := 0) X (by decide +kernel) 0 rfl ?_
  refine g_iconst (n := 0) (x := (0 : Int32)) X (by decide +kernel) (by decide) ?_
  refine g_iconst (n := 1) (x := (1 : Int32)) X (by decide +kernel) (by decide) ?_
  refine g_iconst (n := 3) (x := (3 : Int32)) X (by decide +kernel) (by decide) ?_
  refine g_bipush (n := 40) (x := (40 : Int32)) X (by decide +kernel) (by decide) ?_
  obtain ⟨h34, e33, E⟩ := bp_E E
  refine g_callV0 (st := []) X [.int (0 : Int32), .int (1 : Int32), .int (3 : Int32), .int (40 : Int32)] (by decide +kernel) ml11_259 px0 rfl rfl (by decide) (Nat.le_of_ble_eq_true rfl) (c11_keepRow hK x0 (0 : Int32) (1 : Int32) (3 : Int32) (40 : Int32) h32 px0 e33) ?_
  refine g_iconst (n := 1) (x := (1 : Int32)) X (by decide +kernel) (by decide) ?_
  obtain ⟨rfl, rfl⟩ := rt_E E
  exact g_zreturn X (by decide +kernel) rfl
set_option maxHeartbeats 4000000 in
set_option maxRecDepth 20000 in
theorem w11_runLine_J83 {Γ : CT} {sp : Sp} {K : Ly} {sz n : Nat} {v : Int32} {hf : Hp}   (X : Ok Γ sp prog_13_method_29_code Rc11 5 (some (.boolean)) 5 (some (.int v)) sz K hf) (hK : LyOk K) (x0 : Nat) (x4 : Int32) (h : Hp)  (px0 : K x0 = some (.inl 11)) (E : f11_runLine_J83 K n x0 x4 h = some (v, hf)) : Go Γ (0, 0) 83 [(0, .ref x0), (4, .int x4)] [] sz K h := by
  unfold f11_runLine_J83 at E
  refine g_iload (n := 4) X (by decide +kernel) 1 rfl ?_
  refine g_iconst (n := 2) (x := (2 : Int32)) X (by decide +kernel) (by decide) ?_
  rcases it_E E with ⟨c27, E⟩ | ⟨c27, E⟩
  · refine g_icmp_le_t (off := 19) (tgt := 105) X (by decide +kernel) (by decide) c27 ?_
    exact w11_runLine_J105 X hK x0 x4 h px0 E
  · refine g_icmp_le_f (off := 19) (tgt := 105) X (by decide +kernel) (by decide) c27 ?_
    refine g_aload_n (n := 0) X (by decide +kernel) 0 rfl ?_
    refine g_iconst (n := 2) (x := (2 : Int32)) X (by decide +kernel) (by decide) ?_
    refine g_aload_n (n := 0) X (by decide +kernel) 0 rfl ?_
    refine g_getS X (by decide +kernel) fl11_38 px0 ?_
    refine g_iconst (n := 1) (x := (1 : Int32)) X (by decide +kernel) (by decide) ?_
    refine g_iald X (by decide +kernel) (ly hK px0 fl11_38 rfl) (by decide) ?_
    obtain ⟨y30, h29, e28, E⟩ := bd_E E
    refine g_callV1 (st := []) X [.int (2 : Int32), .int (h.1 (x0 + 10) (1 : Int32).toNatClampNeg)] (by decide +kernel) ml11_272 px0 rfl rfl (by decide) (Nat.le_of_ble_eq_true rfl) (c11_takeNode hK x0 (2 : Int32) (h.1 (x0 + 10) (1 : Int32).toNatClampNeg) h px0 e28) ?_
    rcases it_E E with ⟨c31, E⟩ | ⟨c31, E⟩
    · refine g_if_ne_f (off := 5) (tgt := 105) X (by decide +kernel) (by decide) (fun z => z c31) ?_
      refine g_iconst (n := 0) (x := (0 : Int32)) X (by decide +kernel) (by decide) ?_
      obtain ⟨rfl, rfl⟩ := rt_E E
      exact g_zreturn X (by decide +kernel) rfl
    · refine g_if_ne_t (off := 5) (tgt := 105) X (by decide +kernel) (by decide) c31 ?_
      exact w11_runLine_J105 X hK x0 x4 h29 px0 E
set_option maxHeartbeats 4000000 in
set_option maxRecDepth 20000 in
theorem w11_runLine_J69 {Γ : CT} {sp : Sp} {K : Ly} {sz n : Nat} {v : Int32} {hf : Hp}   (X : Ok Γ sp prog_13_method_29_code Rc11 5 (some (.boolean)) 5 (some (.int v)) sz K hf) (hK : LyOk K) (x0 : Nat) (x4 : Int32) (h : Hp)  (px0 : K x0 = some (.inl 11)) (E : f11_runLine_J69 K n x0 x4 h = some (v, hf)) : Go Γ (0, 0) 69 [(0, .ref x0), (4, .int x4)] [] sz K h := by
  unfold f11_runLine_J69 at E
  refine g_iload (n := 4) X (by decide +kernel) 1 rfl ?_
  refine g_iconst (n := 2) (x := (2 : Int32)) X (by decide +kernel) (by decide) ?_
  rcases it_E E with ⟨c22, E⟩ | ⟨c22, E⟩
  · refine g_icmp_ge_t (off := 11) (tgt := 83) X (by decide +kernel) (by decide) c22 ?_
    exact w11_runLine_J83 X hK x0 x4 h px0 E
  · refine g_icmp_ge_f (off := 11) (tgt := 83) X (by decide +kernel) (by decide) c22 ?_
    refine g_aload_n (n := 0) X (by decide +kernel) 0 rfl ?_
    refine g_iconst (n := 2) (x := (2 : Int32)) X (by decide +kernel) (by decide) ?_
    obtain ⟨y25, h24, e23, E⟩ := bd_E E
    refine g_callV1 (st := []) X [.int (2 : Int32)] (by decide +kernel) ml11_288 px0 rfl rfl (by decide) (Nat.le_of_ble_eq_true rfl) (c11_takeName hK x0 (2 : Int32) h px0 e23) ?_
    rcases it_E E with ⟨c26, E⟩ | ⟨c26, E⟩
    · refine g_if_eq_t (off := 23) (tgt := 103) X (by decide +kernel) (by decide) c26 ?_
      refine g_iconst (n := 0) (x := (0 : Int32)) X (by decide +kernel) (by decide) ?_
      obtain ⟨rfl, rfl⟩ := rt_E E
      exact g_zreturn X (by decide +kernel) rfl
    · refine g_if_eq_f (off := 23) (tgt := 103) X (by decide +kernel) (by decide) c26 ?_
      exact w11_runLine_J83 X hK x0 x4 h24 px0 E
set_option maxHeartbeats 4000000 in
set_option maxRecDepth 20000 in
theorem w11_runLine_J54 {Γ : CT} {sp : Sp} {K : Ly} {sz n : Nat} {v : Int32} {hf : Hp}   (X : Ok Γ sp prog_13_method_29_code Rc11 5 (some (.boolean)) 5 (some (.int v)) sz K hf) (hK : LyOk K) (x0 : Nat) (x4 : Int32) (h : Hp)  (px0 : K x0 = some (.inl 11)) (E : f11_runLine_J54 K n x0 x4 h = some (v, hf)) : Go Γ (0, 0) 54 [(0, .ref x0), (4, .int x4)] [] sz K h := by
  unfold f11_runLine_J54 at E
  refine g_iload (n := 4) X (by decide +kernel) 1 rfl ?_
  refine g_iconst (n := 2) (x := (2 : Int32)) X (by decide +kernel) (by decide) ?_
  rcases it_E E with ⟨c17, E⟩ | ⟨c17, E⟩
  · refine g_icmp_eq_t (off := 12) (tgt := 69) X (by decide +kernel) (by decide) c17 ?_
    exact w11_runLine_J69 X hK x0 x4 h px0 E
  · refine g_icmp_eq_f (off := 12) (tgt := 69) X (by decide +kernel) (by decide) c17 ?_
    refine g_aload_n (n := 0) X (by decide +kernel) 0 rfl ?_
    refine g_iconst (n := 1) (x := (1 : Int32)) X (by decide +kernel) (by decide) ?_
    refine g_iconst (n := -1) (x := (-1 : Int32)) X (by decide +kernel) (by decide) ?_
    obtain ⟨y20, h19, e18, E⟩ := bd_E E
    refine g_callV1 (st := []) X [.int (1 : Int32), .int (-1 : Int32)] (by decide +kernel) ml11_272 px0 rfl rfl (by decide) (Nat.le_of_ble_eq_true rfl) (c11_takeNode hK x0 (1 : Int32) (-1 : Int32) h px0 e18) ?_
    rcases it_E E with ⟨c21, E⟩ | ⟨c21, E⟩
    · refine g_if_eq_t (off := 37) (tgt := 103) X (by decide +kernel) (by decide) c21 ?_
      refine g_iconst (n := 0) (x := (0 : Int32)) X (by decide +kernel) (by decide) ?_
      obtain ⟨rfl, rfl⟩ := rt_E E
      exact g_zreturn X (by decide +kernel) rfl
    · refine g_if_eq_f (off := 37) (tgt := 103) X (by decide +kernel) (by decide) c21 ?_
      exact w11_runLine_J69 X hK x0 x4 h19 px0 E
set_option maxHeartbeats 4000000 in
set_option maxRecDepth 20000 in
theorem c11_runLine {sp : Sp} {K : Ly} {sz n : Nat} (hK : LyOk K) (o : Nat) (a1 : Int64) (a3 : Int32) (h : Hp) (ho : K o = some (.inl 11)) {v : Int32} {hf : Hp} (E : f11_runLine K n o a1 a3 h = some (v, hf)) : Con sp y11_runLine prog_13_method_29_code 5 (some (.boolean)) 5 0 0 [.ref o, .long a1, .int a3] sz K h (some (.int v)) sz K hf := by
  refine Con.of (by decide) (Nat.le_of_ble_eq_true rfl) (fun Γ X _ => ?_)
  show Go Γ (0, 0) 0 [(0, .ref o), (1, .long a1), (3, .int a3)] [] sz K h
  unfold f11_runLine at E
  refine g_aload_n (n := 0) X (by decide +kernel) 0 rfl ?_
  refine g_lload_n (n := 1) X (by decide +kernel) 1 rfl ?_
  refine g_callV1 (st := []) X [.long a1] (by decide +kernel) ml11_302 ho rfl rfl (by decide) (Nat.le_of_ble_eq_true rfl) (c11_deedBy hK o a1 h ho) ?_
  obtain ⟨x4_1, ex4_1, E⟩ := lt_E E
  refine s_istore (i := 4) X (by decide +kernel) (by decide) ex4_1 (ls_next (by decide) (Or.inr rfl) (ls_next (by decide) (Or.inl (by decide)) (ls_next (by decide) (Or.inr rfl) (ls_ins ls_end)))) ?_
  refine g_iload (n := 4) X (by decide +kernel) 3 rfl ?_
  refine g_iconst (n := -1) (x := (-1 : Int32)) X (by decide +kernel) (by decide) ?_
  rcases it_E E with ⟨c2, E⟩ | ⟨c2, E⟩
  · refine g_icmp_ne_f (off := 8) (tgt := 18) X (by decide +kernel) (by decide) (fun z => z c2) ?_
    refine g_aload_n (n := 0) X (by decide +kernel) 0 rfl ?_
    obtain ⟨y5, h4, e3, E⟩ := bd_E E
    refine g_callV1 (st := []) X [] (by decide +kernel) ml11_221 ho rfl rfl (by decide) (Nat.le_of_ble_eq_true rfl) (c11_fails hK o h ho e3) ?_
    obtain ⟨c6, E⟩ := gd_E E
    obtain ⟨rfl, rfl⟩ := rt_E E
    exact g_zreturn X (by decide +kernel) (isB_n c6)
  · refine g_icmp_ne_t (off := 8) (tgt := 18) X (by decide +kernel) (by decide) c2 ?_
    refine g_aload_n (n := 0) X (by decide +kernel) 0 rfl ?_
    refine g_iconst (n := 0) (x := (0 : Int32)) X (by decide +kernel) (by decide) ?_
    refine g_bipush (n := 40) (x := (40 : Int32)) X (by decide +kernel) (by decide) ?_
    refine g_iload_n (n := 3) X (by decide +kernel) 2 rfl ?_
    obtain ⟨h8, e7, E⟩ := bp_E E
    refine g_callV0 (st := []) X [.int (0 : Int32), .int (40 : Int32), .int a3] (by decide +kernel) ml11_284 ho rfl rfl (by decide) (Nat.le_of_ble_eq_true rfl) (c11_full hK o (0 : Int32) (40 : Int32) a3 h ho e7) ?_
    refine g_aload_n (n := 0) X (by decide +kernel) 0 rfl ?_
    obtain ⟨h10, e9, E⟩ := bp_E E
    refine g_callV0 (st := []) X [] (by decide +kernel) ml11_233 ho rfl rfl (by decide) (Nat.le_of_ble_eq_true rfl) (c11_token hK o h8 ho e9) ?_
    refine g_aload_n (n := 0) X (by decide +kernel) 0 rfl ?_
    refine g_getS X (by decide +kernel) fl11_38 ho ?_
    refine g_iconst (n := 2) (x := (2 : Int32)) X (by decide +kernel) (by decide) ?_
    refine g_iconst (n := -1) (x := (-1 : Int32)) X (by decide +kernel) (by decide) ?_
    obtain ⟨h11, eh11, E⟩ := lt_E E
    refine g_iast X (by decide +kernel) (ly hK ho fl11_38 rfl) (by decide) eh11 ?_
    refine g_iload (n := 4) X (by decide +kernel) 3 rfl ?_
    refine g_iconst (n := 2) (x := (2 : Int32)) X (by decide +kernel) (by decide) ?_
    rcases it_E E with ⟨c12, E⟩ | ⟨c12, E⟩
    · refine g_icmp_ne_f (off := 14) (tgt := 54) X (by decide +kernel) (by decide) (fun z => z c12) ?_
      refine g_aload_n (n := 0) X (by decide +kernel) 0 rfl ?_
      refine g_iconst (n := 1) (x := (1 : Int32)) X (by decide +kernel) (by decide) ?_
      refine g_iconst (n := 1) (x := (1 : Int32)) X (by decide +kernel) (by decide) ?_
      refine g_bipush (n := 20) (x := (20 : Int32)) X (by decide +kernel) (by decide) ?_
      obtain ⟨y15, h14, e13, E⟩ := bd_E E
      refine g_callV1 (st := []) X [.int (1 : Int32), .int (1 : Int32), .int (20 : Int32)] (by decide +kernel) ml11_267 ho rfl rfl (by decide) (Nat.le_of_ble_eq_true rfl) (c11_take hK o (1 : Int32) (1 : Int32) (20 : Int32) h11 ho e13) ?_
      rcases it_E E with ⟨c16, E⟩ | ⟨c16, E⟩
      · refine g_if_eq_t (off := 52) (tgt := 103) X (by decide +kernel) (by decide) c16 ?_
        refine g_iconst (n := 0) (x := (0 : Int32)) X (by decide +kernel) (by decide) ?_
        obtain ⟨rfl, rfl⟩ := rt_E E
        exact g_zreturn X (by decide +kernel) rfl
      · refine g_if_eq_f (off := 52) (tgt := 103) X (by decide +kernel) (by decide) c16 ?_
        refine g_sub [0, 3] rfl ?_
        exact w11_runLine_J54 X hK o x4_1 h14 ho E
    · refine g_icmp_ne_t (off := 14) (tgt := 54) X (by decide +kernel) (by decide) c12 ?_
      refine g_sub [0, 3] rfl ?_
      exact w11_runLine_J54 X hK o x4_1 h11 ho E
-- AskedNamesModel.logLine
def f11_logLine_J72 (K : Ly) (n : Nat)  (x0 : Nat) (h : Hp) : Option (Int32 × Hp) :=
    bp (f11_keepRow K n x0 (0 : Int32) (1 : Int32) (2 : Int32) (8 : Int32) h) fun h22 =>
    some ((1 : Int32), h22)
def f11_logLine_J21 (K : Ly) (n : Nat)  (x0 : Nat) (x1 : Int64) (x3 : Int32) (h : Hp) : Option (Int32 × Hp) :=
    bp (f11_full K n x0 (0 : Int32) (8 : Int32) x3 h) fun h8 =>
    bp (f11_token K n x0 h8) fun h10 =>
    lt (sI h10 (x0 + 10) (1 : Int32).toNatClampNeg (-1 : Int32)) fun h11 =>
    bd (f11_take K n x0 (0 : Int32) (0 : Int32) (39 : Int32) h11) fun y14 h13 =>
    if y14 = 0 then (
    some ((0 : Int32), h13))
    else (
    if (lg_cmp x1 (6778740 : Int64)) = 0 then (
    bd (f11_take K n x0 (1 : Int32) (0 : Int32) (99 : Int32) h13) fun y19 h18 =>
    if y19 = 0 then (
    some ((0 : Int32), h18))
    else (
    f11_logLine_J72 K n x0 h18))
    else (
    f11_logLine_J72 K n x0 h13))
def f11_logLine (K : Ly) (n : Nat) (o : Nat) (a1 : Int64) (a3 : Int32) (h : Hp) : Option (Int32 × Hp) :=
    if (lg_cmp a1 (6778740 : Int64)) = 0 then (
    f11_logLine_J21 K n o a1 a3 h)
    else (
    if (lg_cmp a1 (1819243380 : Int64)) = 0 then (
    f11_logLine_J21 K n o a1 a3 h)
    else (
    bd (f11_fails K n o h) fun y5 h4 =>
    gd (isB y5) <|
    some (y5, h4)))
set_option maxHeartbeats 4000000 in
set_option maxRecDepth 20000 in
theorem w11_logLine_J72 {Γ : CT} {sp : Sp} {K : Ly} {sz n : Nat} {v : Int32} {hf : Hp}   (X : Ok Γ sp prog_13_method_30_code Rc11 4 (some (.boolean)) 5 (some (.int v)) sz K hf) (hK : LyOk K) (x0 : Nat) (h : Hp)  (px0 : K x0 = some (.inl 11)) (E : f11_logLine_J72 K n x0 h = some (v, hf)) : Go Γ (0, 0) 72 [(0, .ref x0)] [] sz K h := by
  unfold f11_logLine_J72 at E
  refine g_aload_n (n := 0) X (by decide +kernel) 0 rfl ?_
  refine g_iconst (n := 0) (x := (0 : Int32)) X (by decide +kernel) (by decide) ?_
  refine g_iconst (n := 1) (x := (1 : Int32)) X (by decide +kernel) (by decide) ?_
  refine g_iconst (n := 2) (x := (2 : Int32)) X (by decide +kernel) (by decide) ?_
  refine g_bipush (n := 8) (x := (8 : Int32)) X (by decide +kernel) (by decide) ?_
  obtain ⟨h22, e21, E⟩ := bp_E E
  refine g_callV0 (st := []) X [.int (0 : Int32), .int (1 : Int32), .int (2 : Int32), .int (8 : Int32)] (by decide +kernel) ml11_259 px0 rfl rfl (by decide) (Nat.le_of_ble_eq_true rfl) (c11_keepRow hK x0 (0 : Int32) (1 : Int32) (2 : Int32) (8 : Int32) h px0 e21) ?_
  refine g_iconst (n := 1) (x := (1 : Int32)) X (by decide +kernel) (by decide) ?_
  obtain ⟨rfl, rfl⟩ := rt_E E
  exact g_zreturn X (by decide +kernel) rfl
set_option maxHeartbeats 4000000 in
set_option maxRecDepth 20000 in
theorem w11_logLine_J21 {Γ : CT} {sp : Sp} {K : Ly} {sz n : Nat} {v : Int32} {hf : Hp}   (X : Ok Γ sp prog_13_method_30_code Rc11 4 (some (.boolean)) 5 (some (.int v)) sz K hf) (hK : LyOk K) (x0 : Nat) (x1 : Int64) (x3 : Int32) (h : Hp)  (px0 : K x0 = some (.inl 11)) (E : f11_logLine_J21 K n x0 x1 x3 h = some (v, hf)) : Go Γ (0, 0) 21 [(0, .ref x0), (1, .long x1), (3, .int x3)] [] sz K h := by
  unfold f11_logLine_J21 at E
  refine g_aload_n (n := 0) X (by decide +kernel) 0 rfl ?_
  refine g_iconst (n := 0) (x := (0 : Int32)) X (by decide +kernel) (by decide) ?_
  refine g_bipush (n := 8) (x := (8 : Int32)) X (by decide +kernel) (by decide) ?_
  refine g_iload_n (n := 3) X (by decide +kernel) 2 rfl ?_
  obtain ⟨h8, e7, E⟩ := bp_E E
  refine g_callV0 (st := []) X [.int (0 : Int32), .int (8 : Int32), .int x3] (by decide +kernel) ml11_284 px0 rfl rfl (by decide) (Nat.le_of_ble_eq_true rfl) (c11_full hK x0 (0 : Int32) (8 : Int32) x3 h px0 e7) ?_
  refine g_aload_n (n := 0) X (by decide +kernel) 0 rfl ?_
  obtain ⟨h10, e9, E⟩ := bp_E E
  refine g_callV0 (st := []) X [] (by decide +kernel) ml11_233 px0 rfl rfl (by decide) (Nat.le_of_ble_eq_true rfl) (c11_token hK x0 h8 px0 e9) ?_
  refine g_aload_n (n := 0) X (by decide +kernel) 0 rfl ?_
  refine g_getS X (by decide +kernel) fl11_38 px0 ?_
  refine g_iconst (n := 1) (x := (1 : Int32)) X (by decide +kernel) (by decide) ?_
  refine g_iconst (n := -1) (x := (-1 : Int32)) X (by decide +kernel) (by decide) ?_
  obtain ⟨h11, eh11, E⟩ := lt_E E
  refine g_iast X (by decide +kernel) (ly hK px0 fl11_38 rfl) (by decide) eh11 ?_
  refine g_aload_n (n := 0) X (by decide +kernel) 0 rfl ?_
  refine g_iconst (n := 0) (x := (0 : Int32)) X (by decide +kernel) (by decide) ?_
  refine g_iconst (n := 0) (x := (0 : Int32)) X (by decide +kernel) (by decide) ?_
  refine g_bipush (n := 39) (x := (39 : Int32)) X (by decide +kernel) (by decide) ?_
  obtain ⟨y14, h13, e12, E⟩ := bd_E E
  refine g_callV1 (st := []) X [.int (0 : Int32), .int (0 : Int32), .int (39 : Int32)] (by decide +kernel) ml11_267 px0 rfl rfl (by decide) (Nat.le_of_ble_eq_true rfl) (c11_take hK x0 (0 : Int32) (0 : Int32) (39 : Int32) h11 px0 e12) ?_
  rcases it_E E with ⟨c15, E⟩ | ⟨c15, E⟩
  · refine g_if_eq_t (off := 22) (tgt := 70) X (by decide +kernel) (by decide) c15 ?_
    refine g_iconst (n := 0) (x := (0 : Int32)) X (by decide +kernel) (by decide) ?_
    obtain ⟨rfl, rfl⟩ := rt_E E
    exact g_zreturn X (by decide +kernel) rfl
  · refine g_if_eq_f (off := 22) (tgt := 70) X (by decide +kernel) (by decide) c15 ?_
    refine g_lload_n (n := 1) X (by decide +kernel) 1 rfl ?_
    refine g_ldc2_w (index := 305) (x := (6778740 : Int64)) X (by decide +kernel) (in_c7 97 rfl rfl) ?_
    refine g_lcmp X (by decide +kernel) ?_
    rcases it_E E with ⟨c16, E⟩ | ⟨c16, E⟩
    · refine g_if_ne_f (off := 16) (tgt := 72) X (by decide +kernel) (by decide) (fun z => z c16) ?_
      refine g_aload_n (n := 0) X (by decide +kernel) 0 rfl ?_
      refine g_iconst (n := 1) (x := (1 : Int32)) X (by decide +kernel) (by decide) ?_
      refine g_iconst (n := 0) (x := (0 : Int32)) X (by decide +kernel) (by decide) ?_
      refine g_bipush (n := 99) (x := (99 : Int32)) X (by decide +kernel) (by decide) ?_
      obtain ⟨y19, h18, e17, E⟩ := bd_E E
      refine g_callV1 (st := []) X [.int (1 : Int32), .int (0 : Int32), .int (99 : Int32)] (by decide +kernel) ml11_267 px0 rfl rfl (by decide) (Nat.le_of_ble_eq_true rfl) (c11_take hK x0 (1 : Int32) (0 : Int32) (99 : Int32) h13 px0 e17) ?_
      rcases it_E E with ⟨c20, E⟩ | ⟨c20, E⟩
      · refine g_if_ne_f (off := 5) (tgt := 72) X (by decide +kernel) (by decide) (fun z => z c20) ?_
        refine g_iconst (n := 0) (x := (0 : Int32)) X (by decide +kernel) (by decide) ?_
        obtain ⟨rfl, rfl⟩ := rt_E E
        exact g_zreturn X (by decide +kernel) rfl
      · refine g_if_ne_t (off := 5) (tgt := 72) X (by decide +kernel) (by decide) c20 ?_
        refine g_sub [0] rfl ?_
        exact w11_logLine_J72 X hK x0 h18 px0 E
    · refine g_if_ne_t (off := 16) (tgt := 72) X (by decide +kernel) (by decide) c16 ?_
      refine g_sub [0] rfl ?_
      exact w11_logLine_J72 X hK x0 h13 px0 E
set_option maxHeartbeats 4000000 in
set_option maxRecDepth 20000 in
theorem c11_logLine {sp : Sp} {K : Ly} {sz n : Nat} (hK : LyOk K) (o : Nat) (a1 : Int64) (a3 : Int32) (h : Hp) (ho : K o = some (.inl 11)) {v : Int32} {hf : Hp} (E : f11_logLine K n o a1 a3 h = some (v, hf)) : Con sp y11_logLine prog_13_method_30_code 4 (some (.boolean)) 5 0 0 [.ref o, .long a1, .int a3] sz K h (some (.int v)) sz K hf := by
  refine Con.of (by decide) (Nat.le_of_ble_eq_true rfl) (fun Γ X _ => ?_)
  show Go Γ (0, 0) 0 [(0, .ref o), (1, .long a1), (3, .int a3)] [] sz K h
  unfold f11_logLine at E
  refine g_lload_n (n := 1) X (by decide +kernel) 1 rfl ?_
  refine g_ldc2_w (index := 305) (x := (6778740 : Int64)) X (by decide +kernel) (in_c7 97 rfl rfl) ?_
  refine g_lcmp X (by decide +kernel) ?_
  rcases it_E E with ⟨c1, E⟩ | ⟨c1, E⟩
  · refine g_if_eq_t (off := 16) (tgt := 21) X (by decide +kernel) (by decide) c1 ?_
    exact w11_logLine_J21 X hK o a1 a3 h ho E
  · refine g_if_eq_f (off := 16) (tgt := 21) X (by decide +kernel) (by decide) c1 ?_
    refine g_lload_n (n := 1) X (by decide +kernel) 1 rfl ?_
    refine g_ldc2_w (index := 307) (x := (1819243380 : Int64)) X (by decide +kernel) (in_c7 98 rfl rfl) ?_
    refine g_lcmp X (by decide +kernel) ?_
    rcases it_E E with ⟨c2, E⟩ | ⟨c2, E⟩
    · refine g_if_eq_t (off := 8) (tgt := 21) X (by decide +kernel) (by decide) c2 ?_
      exact w11_logLine_J21 X hK o a1 a3 h ho E
    · refine g_if_eq_f (off := 8) (tgt := 21) X (by decide +kernel) (by decide) c2 ?_
      refine g_aload_n (n := 0) X (by decide +kernel) 0 rfl ?_
      obtain ⟨y5, h4, e3, E⟩ := bd_E E
      refine g_callV1 (st := []) X [] (by decide +kernel) ml11_221 ho rfl rfl (by decide) (Nat.le_of_ble_eq_true rfl) (c11_fails hK o h ho e3) ?_
      obtain ⟨c6, E⟩ := gd_E E
      obtain ⟨rfl, rfl⟩ := rt_E E
      exact g_zreturn X (by decide +kernel) (isB_n c6)
-- AskedNamesModel.allLines
def f11_allLines_J95 (K : Ly) (n : Nat) (r2 : Int32 → Hp → Option (Int32 × Hp)) (x0 : Nat) (x1 : Int32) (x2 : Int32) (h : Hp) : Option (Int32 × Hp) :=
    if x2 = 0 then (
    r2 x2 h)
    else (
    bp (f11_token K n x0 h) fun h26 =>
    r2 x2 h26)
def f11_allLines_J77 (K : Ly) (n : Nat) (r2 : Int32 → Hp → Option (Int32 × Hp)) (x0 : Nat) (x1 : Int32) (s0 : Int32) (h : Hp) : Option (Int32 × Hp) :=
    if s0 = 0 then (
    f11_allLines_J95 K n (r2) x0 x1 s0 h)
    else (
    if (h.1 x0 12) = (4 : Int32) then (
    f11_allLines_J95 K n (r2) x0 x1 s0 h)
    else (
    bd (f11_fails K n x0 h) fun y23 h22 =>
    f11_allLines_J95 K n (r2) x0 x1 y23 h22))
def f11_allLines_J34 (K : Ly) (n : Nat) (r2 : Int32 → Hp → Option (Int32 × Hp)) (x0 : Nat) (x1 : Int32) (x3 : Int32) (s0 : Int64) (h : Hp) : Option (Int32 × Hp) :=
    lt (sI h x0 21 (1 : Int32)) fun h7 =>
    if x1 = 0 then (
    bd (f11_netLine K n x0 s0 x3 h7) fun y11 h10 =>
    f11_allLines_J77 K n (r2) x0 x1 y11 h10)
    else (
    if x1 = (1 : Int32) then (
    bd (f11_runLine K n x0 s0 x3 h7) fun y15 h14 =>
    f11_allLines_J77 K n (r2) x0 x1 y15 h14)
    else (
    bd (f11_logLine K n x0 s0 x3 h7) fun y18 h17 =>
    f11_allLines_J77 K n (r2) x0 x1 y18 h17))
def f11_allLines_L2 (K : Ly) (n : Nat) (x0 : Nat) (x1 : Int32)   : Nat → Int32 → Hp → Option (Int32 × Hp)
  | 0, _, _ => none
  | k + 1, x2, h =>
    if x2 = 0 then (
    gd (isB x2) <|
    some (x2, h))
    else (
    if (h.1 x0 12) = 0 then (
    gd (isB x2) <|
    some (x2, h))
    else (
    lt (h.1 x0 11) fun x3_5 =>
    f11_allLines_J34 K n (f11_allLines_L2 K n x0 x1  k) x0 x1 x3_5 (if (h.1 x0 12) = (2 : Int32) then (h.2.1 x0 14) else (0 : Int64)) h))
def f11_allLines (K : Ly) (n : Nat) (o : Nat) (a1 : Int32) (h : Hp) : Option (Int32 × Hp) :=
    f11_allLines_L2 K n o a1 n (1 : Int32) h
set_option maxHeartbeats 4000000 in
set_option maxRecDepth 20000 in
theorem w11_allLines_J95 {Γ : CT} {sp : Sp} {K : Ly} {sz n : Nat} {v : Int32} {hf : Hp}  {r2 : Int32 → Hp → Option (Int32 × Hp)}  (X : Ok Γ sp prog_13_method_31_code Rc11 6 (some (.boolean)) 6 (some (.int v)) sz K hf) (hK : LyOk K) (x0 : Nat) (x1 : Int32) (x2 : Int32) (h : Hp) (hr2 : ∀ (x2 : Int32) (h : Hp), r2 x2 h = some (v, hf) → Go Γ (0, 0) 2 [(0, .ref x0), (1, .int x1), (2, .int x2)] [] sz K h) (px0 : K x0 = some (.inl 11)) (E : f11_allLines_J95 K n r2 x0 x1 x2 h = some (v, hf)) : Go Γ (0, 0) 95 [(0, .ref x0), (1, .int x1), (2, .int x2)] [] sz K h := by
  unfold f11_allLines_J95 at E
  refine g_iload_n (n := 2) X (by decide +kernel) 2 rfl ?_
  rcases it_E E with ⟨c24, E⟩ | ⟨c24, E⟩
  · refine g_if_eq_t (off := 7) (tgt := 103) X (by decide +kernel) (by decide) c24 ?_
    refine g_goto (off := -101) (tgt := 2) X (by decide +kernel) (by decide) ?_
    exact hr2 x2 h  E
  · refine g_if_eq_f (off := 7) (tgt := 103) X (by decide +kernel) (by decide) c24 ?_
    refine g_aload_n (n := 0) X (by decide +kernel) 0 rfl ?_
    obtain ⟨h26, e25, E⟩ := bp_E E
    refine g_callV0 (st := []) X [] (by decide +kernel) ml11_233 px0 rfl rfl (by decide) (Nat.le_of_ble_eq_true rfl) (c11_token hK x0 h px0 e25) ?_
    refine g_goto (off := -101) (tgt := 2) X (by decide +kernel) (by decide) ?_
    exact hr2 x2 h26  E
set_option maxHeartbeats 4000000 in
set_option maxRecDepth 20000 in
theorem w11_allLines_J77 {Γ : CT} {sp : Sp} {K : Ly} {sz n : Nat} {v : Int32} {hf : Hp}  {r2 : Int32 → Hp → Option (Int32 × Hp)}  (X : Ok Γ sp prog_13_method_31_code Rc11 6 (some (.boolean)) 6 (some (.int v)) sz K hf) (hK : LyOk K) (x0 : Nat) (x1 : Int32) (s0 : Int32) (h : Hp) (hr2 : ∀ (x2 : Int32) (h : Hp), r2 x2 h = some (v, hf) → Go Γ (0, 0) 2 [(0, .ref x0), (1, .int x1), (2, .int x2)] [] sz K h) (px0 : K x0 = some (.inl 11)) (E : f11_allLines_J77 K n r2 x0 x1 s0 h = some (v, hf)) : Go Γ (0, 0) 77 [(0, .ref x0), (1, .int x1)] [.int s0] sz K h := by
  unfold f11_allLines_J77 at E
  refine s_istore_n (n := 2) (i := 2) X (by decide +kernel) rfl (by decide) rfl (ls_next (by decide) (Or.inr rfl) (ls_next (by decide) (Or.inr rfl) (ls_ins ls_end))) ?_
  refine g_iload_n (n := 2) X (by decide +kernel) 2 rfl ?_
  rcases it_E E with ⟨c19, E⟩ | ⟨c19, E⟩
  · refine g_if_eq_t (off := 16) (tgt := 95) X (by decide +kernel) (by decide) c19 ?_
    exact w11_allLines_J95 X hK x0 x1 s0 h hr2 px0 E
  · refine g_if_eq_f (off := 16) (tgt := 95) X (by decide +kernel) (by decide) c19 ?_
    refine g_aload_n (n := 0) X (by decide +kernel) 0 rfl ?_
    refine g_getI X (by decide +kernel) fl11_206 px0 ?_
    refine g_iconst (n := 4) (x := (4 : Int32)) X (by decide +kernel) (by decide) ?_
    rcases it_E E with ⟨c20, E⟩ | ⟨c20, E⟩
    · refine g_icmp_eq_t (off := 8) (tgt := 95) X (by decide +kernel) (by decide) c20 ?_
      exact w11_allLines_J95 X hK x0 x1 s0 h hr2 px0 E
    · refine g_icmp_eq_f (off := 8) (tgt := 95) X (by decide +kernel) (by decide) c20 ?_
      refine g_aload_n (n := 0) X (by decide +kernel) 0 rfl ?_
      obtain ⟨y23, h22, e21, E⟩ := bd_E E
      refine g_callV1 (st := []) X [] (by decide +kernel) ml11_221 px0 rfl rfl (by decide) (Nat.le_of_ble_eq_true rfl) (c11_fails hK x0 h px0 e21) ?_
      refine s_istore_n (n := 2) (i := 2) X (by decide +kernel) rfl (by decide) rfl (ls_next (by decide) (Or.inr rfl) (ls_next (by decide) (Or.inr rfl) (ls_here ls_end))) ?_
      exact w11_allLines_J95 X hK x0 x1 y23 h22 hr2 px0 E
set_option maxHeartbeats 4000000 in
set_option maxRecDepth 20000 in
theorem w11_allLines_J34 {Γ : CT} {sp : Sp} {K : Ly} {sz n : Nat} {v : Int32} {hf : Hp}  {r2 : Int32 → Hp → Option (Int32 × Hp)}  (X : Ok Γ sp prog_13_method_31_code Rc11 6 (some (.boolean)) 6 (some (.int v)) sz K hf) (hK : LyOk K) (x0 : Nat) (x1 : Int32) (x3 : Int32) (s0 : Int64) (h : Hp) (hr2 : ∀ (x2 : Int32) (h : Hp), r2 x2 h = some (v, hf) → Go Γ (0, 0) 2 [(0, .ref x0), (1, .int x1), (2, .int x2)] [] sz K h) (px0 : K x0 = some (.inl 11)) (E : f11_allLines_J34 K n r2 x0 x1 x3 s0 h = some (v, hf)) : Go Γ (0, 0) 34 [(0, .ref x0), (1, .int x1), (3, .int x3)] [.long s0] sz K h := by
  unfold f11_allLines_J34 at E
  refine s_lstore (i := 4) X (by decide +kernel) (by decide) rfl (ls_next (by decide) (Or.inr rfl) (ls_next (by decide) (Or.inr rfl) (ls_next (by decide) (Or.inr rfl) (ls_ins ls_end)))) (by simp) ?_
  refine g_aload_n (n := 0) X (by decide +kernel) 0 rfl ?_
  refine g_iconst (n := 1) (x := (1 : Int32)) X (by decide +kernel) (by decide) ?_
  obtain ⟨h7, eh7, E⟩ := lt_E E
  refine g_putZ X (by decide +kernel) fp11_229 rfl rfl px0 eh7 ?_
  refine g_iload_n (n := 1) X (by decide +kernel) 1 rfl ?_
  rcases it_E E with ⟨c8, E⟩ | ⟨c8, E⟩
  · refine g_if_ne_f (off := 13) (tgt := 55) X (by decide +kernel) (by decide) (fun z => z c8) ?_
    refine g_aload_n (n := 0) X (by decide +kernel) 0 rfl ?_
    refine g_lload (n := 4) X (by decide +kernel) 3 rfl ?_
    refine g_iload_n (n := 3) X (by decide +kernel) 2 rfl ?_
    obtain ⟨y11, h10, e9, E⟩ := bd_E E
    refine g_callV1 (st := []) X [.long s0, .int x3] (by decide +kernel) ml11_309 px0 rfl rfl (by decide) (Nat.le_of_ble_eq_true rfl) (c11_netLine hK x0 s0 x3 h7 px0 e9) ?_
    refine g_goto (off := 25) (tgt := 77) X (by decide +kernel) (by decide) ?_
    refine g_sub [0, 1] rfl ?_
    exact w11_allLines_J77 X hK x0 x1 y11 h10 hr2 px0 E
  · refine g_if_ne_t (off := 13) (tgt := 55) X (by decide +kernel) (by decide) c8 ?_
    refine g_iload_n (n := 1) X (by decide +kernel) 1 rfl ?_
    refine g_iconst (n := 1) (x := (1 : Int32)) X (by decide +kernel) (by decide) ?_
    rcases it_E E with ⟨c12, E⟩ | ⟨c12, E⟩
    · refine g_icmp_ne_f (off := 13) (tgt := 70) X (by decide +kernel) (by decide) (fun z => z c12) ?_
      refine g_aload_n (n := 0) X (by decide +kernel) 0 rfl ?_
      refine g_lload (n := 4) X (by decide +kernel) 3 rfl ?_
      refine g_iload_n (n := 3) X (by decide +kernel) 2 rfl ?_
      obtain ⟨y15, h14, e13, E⟩ := bd_E E
      refine g_callV1 (st := []) X [.long s0, .int x3] (by decide +kernel) ml11_313 px0 rfl rfl (by decide) (Nat.le_of_ble_eq_true rfl) (c11_runLine hK x0 s0 x3 h7 px0 e13) ?_
      refine g_goto (off := 10) (tgt := 77) X (by decide +kernel) (by decide) ?_
      refine g_sub [0, 1] rfl ?_
      exact w11_allLines_J77 X hK x0 x1 y15 h14 hr2 px0 E
    · refine g_icmp_ne_t (off := 13) (tgt := 70) X (by decide +kernel) (by decide) c12 ?_
      refine g_aload_n (n := 0) X (by decide +kernel) 0 rfl ?_
      refine g_lload (n := 4) X (by decide +kernel) 3 rfl ?_
      refine g_iload_n (n := 3) X (by decide +kernel) 2 rfl ?_
      obtain ⟨y18, h17, e16, E⟩ := bd_E E
      refine g_callV1 (st := []) X [.long s0, .int x3] (by decide +kernel) ml11_316 px0 rfl rfl (by decide) (Nat.le_of_ble_eq_true rfl) (c11_logLine hK x0 s0 x3 h7 px0 e16) ?_
      refine g_sub [0, 1] rfl ?_
      exact w11_allLines_J77 X hK x0 x1 y18 h17 hr2 px0 E
set_option maxHeartbeats 4000000 in
set_option maxRecDepth 20000 in
theorem w11_allLines_L2 {Γ : CT} {sp : Sp} {K : Ly} {sz n : Nat} {v : Int32} {hf : Hp}  (X : Ok Γ sp prog_13_method_31_code Rc11 6 (some (.boolean)) 6 (some (.int v)) sz K hf) (hK : LyOk K) (x0 : Nat) (x1 : Int32)  (px0 : K x0 = some (.inl 11))  : ∀ (k : Nat) (x2 : Int32) (h : Hp), f11_allLines_L2 K n x0 x1  k x2 h = some (v, hf) → Go Γ (0, 0) 2 [(0, .ref x0), (1, .int x1), (2, .int x2)] [] sz K h := by
  intro k
  induction k with
  | zero => intro x2 h E; cases E
  | succ k ih =>
    intro x2 h E
    unfold f11_allLines_L2 at E
    refine g_iload_n (n := 2) X (by decide +kernel) 2 rfl ?_
    rcases it_E E with ⟨c1, E⟩ | ⟨c1, E⟩
    · refine g_if_eq_t (off := 103) (tgt := 106) X (by decide +kernel) (by decide) c1 ?_
      refine g_iload_n (n := 2) X (by decide +kernel) 2 rfl ?_
      obtain ⟨c2, E⟩ := gd_E E
      obtain ⟨rfl, rfl⟩ := rt_E E
      exact g_zreturn X (by decide +kernel) (isB_n c2)
    · refine g_if_eq_f (off := 103) (tgt := 106) X (by decide +kernel) (by decide) c1 ?_
      refine g_aload_n (n := 0) X (by decide +kernel) 0 rfl ?_
      refine g_getI X (by decide +kernel) fl11_206 px0 ?_
      rcases it_E E with ⟨c3, E⟩ | ⟨c3, E⟩
      · refine g_if_eq_t (off := 96) (tgt := 106) X (by decide +kernel) (by decide) c3 ?_
        refine g_iload_n (n := 2) X (by decide +kernel) 2 rfl ?_
        obtain ⟨c4, E⟩ := gd_E E
        obtain ⟨rfl, rfl⟩ := rt_E E
        exact g_zreturn X (by decide +kernel) (isB_n c4)
      · refine g_if_eq_f (off := 96) (tgt := 106) X (by decide +kernel) (by decide) c3 ?_
        refine g_aload_n (n := 0) X (by decide +kernel) 0 rfl ?_
        refine g_getI X (by decide +kernel) fl11_199 px0 ?_
        obtain ⟨x3_5, ex3_5, E⟩ := lt_E E
        refine s_istore_n (n := 3) (i := 3) X (by decide +kernel) rfl (by decide) ex3_5 (ls_next (by decide) (Or.inr rfl) (ls_next (by decide) (Or.inr rfl) (ls_next (by decide) (Or.inr rfl) (ls_ins ls_end)))) ?_
        refine g_aload_n (n := 0) X (by decide +kernel) 0 rfl ?_
        refine g_getI X (by decide +kernel) fl11_206 px0 ?_
        refine g_iconst (n := 2) (x := (2 : Int32)) X (by decide +kernel) (by decide) ?_
        have hJ : Go Γ (0, 0) 34 [(0, .ref x0), (1, .int x1), (3, .int x3_5)] [.long (if (h.1 x0 12) = (2 : Int32) then (h.2.1 x0 14) else (0 : Int64))] sz K h := by
          exact w11_allLines_J34 X hK x0 x1 x3_5 (if (h.1 x0 12) = (2 : Int32) then (h.2.1 x0 14) else (0 : Int64)) h ih px0 E
        clear E
        by_cases c6 : (h.1 x0 12) = (2 : Int32)
        · rw [if_pos c6] at hJ
          refine g_icmp_ne_f (off := 10) (tgt := 33) X (by decide +kernel) (by decide) (fun z => z c6) ?_
          refine g_aload_n (n := 0) X (by decide +kernel) 0 rfl ?_
          refine g_getL X (by decide +kernel) fl11_202 px0 ?_
          refine g_goto (off := 4) (tgt := 34) X (by decide +kernel) (by decide) ?_
          refine g_sub [0, 1, 3] rfl ?_
          exact hJ
        · rw [if_neg c6] at hJ
          refine g_icmp_ne_t (off := 10) (tgt := 33) X (by decide +kernel) (by decide) c6 ?_
          refine g_lconst (n := 0) (x := (0 : Int64)) X (by decide +kernel) (by decide) ?_
          refine g_sub [0, 1, 3] rfl ?_
          exact hJ
set_option maxHeartbeats 4000000 in
set_option maxRecDepth 20000 in
theorem c11_allLines {sp : Sp} {K : Ly} {sz n : Nat} (hK : LyOk K) (o : Nat) (a1 : Int32) (h : Hp) (ho : K o = some (.inl 11)) {v : Int32} {hf : Hp} (E : f11_allLines K n o a1 h = some (v, hf)) : Con sp y11_allLines prog_13_method_31_code 6 (some (.boolean)) 6 0 0 [.ref o, .int a1] sz K h (some (.int v)) sz K hf := by
  refine Con.of (by decide) (Nat.le_of_ble_eq_true rfl) (fun Γ X _ => ?_)
  show Go Γ (0, 0) 0 [(0, .ref o), (1, .int a1)] [] sz K h
  unfold f11_allLines at E
  refine g_iconst (n := 1) (x := (1 : Int32)) X (by decide +kernel) (by decide) ?_
  refine s_istore_n (n := 2) (i := 2) X (by decide +kernel) rfl (by decide) rfl (ls_next (by decide) (Or.inr rfl) (ls_next (by decide) (Or.inr rfl) (ls_ins ls_end))) ?_
  exact w11_allLines_L2 X hK o a1 ho n (1 : Int32) h E
-- AskedNamesModel.readText
def f11_readText_J54 (K : Ly) (n : Nat) (r2 : Int32 → Hp → Option (Int32 × Hp)) (x0 : Nat) (x1 : Int32) (x2 : Int32) (s0 : Nat) (s1 : Int32) (s2 : Int32) (h : Hp) : Option (Int32 × Hp) :=
    gd (inb s1 122) <|
    lt (sI h s0 s1.toNatClampNeg s2) fun h22 =>
    lt (x2 + (1 : Int32)) fun x2_23 =>
    r2 x2_23 h22
def f11_readText_J172 (K : Ly) (n : Nat)  (x0 : Nat) (s0 : Nat) (s1 : Int32) (s2 : Int32) (h : Hp) : Option (Int32 × Hp) :=
    gd (inb s1 4) <|
    lt (sI h s0 s1.toNatClampNeg s2) fun h29 =>
    some ((if (h29.1 (x0 + 3) (0 : Int32).toNatClampNeg) = 0 then (1 : Int32) else (0 : Int32)), h29)
def f11_readText_J140 (K : Ly) (n : Nat)  (x0 : Nat) (x2 : Int32) (s0 : Nat) (s1 : Int32) (s2 : Int32) (h : Hp) : Option (Int32 × Hp) :=
    gd (inb s1 4) <|
    lt (sI h s0 s1.toNatClampNeg s2) fun h25 =>
    f11_readText_J172 K n x0 (x0 + 4) (0 : Int32) (if x2 = 0 then (h25.1 x0 15) else (if (h25.1 x0 16) ≤ 0 then (-1 : Int32) else (h25.1 x0 17))) h25
def f11_readText_J123 (K : Ly) (n : Nat)  (x0 : Nat) (x2 : Int32) (h : Hp) : Option (Int32 × Hp) :=
    f11_readText_J140 K n x0 x2 (x0 + 3) (0 : Int32) (if x2 = 0 then (1 : Int32) else (h.1 x0 16)) h
def f11_readText_L2 (K : Ly) (n : Nat) (x0 : Nat) (x1 : Int32)   : Nat → Int32 → Hp → Option (Int32 × Hp)
  | 0, _, _ => none
  | k + 1, x2, h =>
    if (122 : Int32) ≤ x2 then (
    lt (sI h x0 20 (-1 : Int32)) fun h2 =>
    lt (sI h2 x0 9 (0 : Int32)) fun h3 =>
    lt (sI h3 x0 16 (0 : Int32)) fun h4 =>
    bp (f11_token K n x0 h4) fun h6 =>
    bd (f11_allLines K n x0 x1 h6) fun y9 h8 =>
    if y9 = 0 then (
    f11_readText_J123 K n x0 y9 h8)
    else (
    if x1 = 0 then (
    if (h8.1 x0 16) = 0 then (
    if (h8.1 x0 20) < (h8.1 (x0 + 9) (0 : Int32).toNatClampNeg) then (
    f11_readText_J123 K n x0 y9 h8)
    else (
    bp (f11_addsFault K n x0 (4 : Int32) (h8.1 x0 11) h8) fun h15 =>
    f11_readText_J123 K n x0 y9 h15))
    else (
    f11_readText_J123 K n x0 y9 h8))
    else (
    f11_readText_J123 K n x0 y9 h8)))
    else (
    f11_readText_J54 K n (f11_readText_L2 K n x0 x1  k) x0 x1 x2 (x0 + 9) x2 (if x1 = 0 then (if x2 = 0 then (3 : Int32) else (if x2 = (1 : Int32) then (20 : Int32) else (if (f11_in x2 (5 : Int32) (10 : Int32)) = 0 then (0 : Int32) else (2 : Int32)))) else (0 : Int32)) h)
def f11_readText (K : Ly) (n : Nat) (o : Nat) (a1 : Int32) (h : Hp) : Option (Int32 × Hp) :=
    f11_readText_L2 K n o a1 n (0 : Int32) h
set_option maxHeartbeats 4000000 in
set_option maxRecDepth 20000 in
theorem w11_readText_J54 {Γ : CT} {sp : Sp} {K : Ly} {sz n : Nat} {v : Int32} {hf : Hp}  {r2 : Int32 → Hp → Option (Int32 × Hp)}  (X : Ok Γ sp prog_13_method_32_code Rc11 3 (some (.boolean)) 7 (some (.int v)) sz K hf) (hK : LyOk K) (x0 : Nat) (x1 : Int32) (x2 : Int32) (s0 : Nat) (s1 : Int32) (s2 : Int32) (h : Hp) (hr2 : ∀ (x2 : Int32) (h : Hp), r2 x2 h = some (v, hf) → Go Γ (0, 0) 2 [(0, .ref x0), (1, .int x1), (2, .int x2)] [] sz K h) (px0 : K x0 = some (.inl 11)) (ps0 : K s0 = some (.inr (0, 122))) (E : f11_readText_J54 K n r2 x0 x1 x2 s0 s1 s2 h = some (v, hf)) : Go Γ (0, 0) 54 [(0, .ref x0), (1, .int x1), (2, .int x2)] [.int s2, .int s1, .ref s0] sz K h := by
  unfold f11_readText_J54 at E
  obtain ⟨c21, E⟩ := gd_E E
  obtain ⟨h22, eh22, E⟩ := lt_E E
  refine g_iast X (by decide +kernel) ps0 c21 eh22 ?_
  obtain ⟨x2_23, ex2_23, E⟩ := lt_E E
  refine s_iinc (i := 2) (n := 1) (y := x2_23) X (by decide +kernel) 2 rfl (by decide) ex2_23 (ls_next (by decide) (Or.inr rfl) (ls_next (by decide) (Or.inr rfl) (ls_here ls_end))) ?_
  refine g_goto (off := -56) (tgt := 2) X (by decide +kernel) (by decide) ?_
  exact hr2 x2_23 h22  E
set_option maxHeartbeats 4000000 in
set_option maxRecDepth 20000 in
theorem w11_readText_J172 {Γ : CT} {sp : Sp} {K : Ly} {sz n : Nat} {v : Int32} {hf : Hp}   (X : Ok Γ sp prog_13_method_32_code Rc11 3 (some (.boolean)) 7 (some (.int v)) sz K hf) (hK : LyOk K) (x0 : Nat) (s0 : Nat) (s1 : Int32) (s2 : Int32) (h : Hp)  (px0 : K x0 = some (.inl 11)) (ps0 : K s0 = some (.inr (0, 4))) (E : f11_readText_J172 K n x0 s0 s1 s2 h = some (v, hf)) : Go Γ (0, 0) 172 [(0, .ref x0)] [.int s2, .int s1, .ref s0] sz K h := by
  unfold f11_readText_J172 at E
  obtain ⟨c28, E⟩ := gd_E E
  obtain ⟨h29, eh29, E⟩ := lt_E E
  refine g_iast X (by decide +kernel) ps0 c28 eh29 ?_
  refine g_aload_n (n := 0) X (by decide +kernel) 0 rfl ?_
  refine g_getS X (by decide +kernel) fl11_17 px0 ?_
  refine g_iconst (n := 0) (x := (0 : Int32)) X (by decide +kernel) (by decide) ?_
  refine g_iald X (by decide +kernel) (ly hK px0 fl11_17 rfl) (by decide) ?_
  have hJ : Go Γ (0, 0) 187 [] [.int (if (h29.1 (x0 + 3) (0 : Int32).toNatClampNeg) = 0 then (1 : Int32) else (0 : Int32))] sz K h29 := by
    obtain ⟨rfl, rfl⟩ := rt_E E
    exact g_zreturn X (by decide +kernel) (by (repeat' split) <;> rfl)
  clear E
  by_cases c30 : (h29.1 (x0 + 3) (0 : Int32).toNatClampNeg) = 0
  · rw [if_pos c30] at hJ
    refine g_if_ne_f (off := 7) (tgt := 186) X (by decide +kernel) (by decide) (fun z => z c30) ?_
    refine g_iconst (n := 1) (x := (1 : Int32)) X (by decide +kernel) (by decide) ?_
    refine g_goto (off := 4) (tgt := 187) X (by decide +kernel) (by decide) ?_
    refine g_sub [] rfl ?_
    exact hJ
  · rw [if_neg c30] at hJ
    refine g_if_ne_t (off := 7) (tgt := 186) X (by decide +kernel) (by decide) c30 ?_
    refine g_iconst (n := 0) (x := (0 : Int32)) X (by decide +kernel) (by decide) ?_
    refine g_sub [] rfl ?_
    exact hJ
set_option maxHeartbeats 4000000 in
set_option maxRecDepth 20000 in
theorem w11_readText_J140 {Γ : CT} {sp : Sp} {K : Ly} {sz n : Nat} {v : Int32} {hf : Hp}   (X : Ok Γ sp prog_13_method_32_code Rc11 3 (some (.boolean)) 7 (some (.int v)) sz K hf) (hK : LyOk K) (x0 : Nat) (x2 : Int32) (s0 : Nat) (s1 : Int32) (s2 : Int32) (h : Hp)  (px0 : K x0 = some (.inl 11)) (ps0 : K s0 = some (.inr (0, 4))) (E : f11_readText_J140 K n x0 x2 s0 s1 s2 h = some (v, hf)) : Go Γ (0, 0) 140 [(0, .ref x0), (2, .int x2)] [.int s2, .int s1, .ref s0] sz K h := by
  unfold f11_readText_J140 at E
  obtain ⟨c24, E⟩ := gd_E E
  obtain ⟨h25, eh25, E⟩ := lt_E E
  refine g_iast X (by decide +kernel) ps0 c24 eh25 ?_
  refine g_aload_n (n := 0) X (by decide +kernel) 0 rfl ?_
  refine g_getS X (by decide +kernel) fl11_20 px0 ?_
  refine g_iconst (n := 0) (x := (0 : Int32)) X (by decide +kernel) (by decide) ?_
  refine g_iload_n (n := 2) X (by decide +kernel) 1 rfl ?_
  have hJ : Go Γ (0, 0) 172 [(0, .ref x0)] [.int (if x2 = 0 then (h25.1 x0 15) else (if (h25.1 x0 16) ≤ 0 then (-1 : Int32) else (h25.1 x0 17))), .int (0 : Int32), .ref (x0 + 4)] sz K h25 := by
    exact w11_readText_J172 X hK x0 (x0 + 4) (0 : Int32) (if x2 = 0 then (h25.1 x0 15) else (if (h25.1 x0 16) ≤ 0 then (-1 : Int32) else (h25.1 x0 17))) h25 px0 (ly hK px0 fl11_20 rfl) E
  clear E
  by_cases c26 : x2 = 0
  · rw [if_pos c26] at hJ
    refine g_if_ne_f (off := 10) (tgt := 157) X (by decide +kernel) (by decide) (fun z => z c26) ?_
    refine g_aload_n (n := 0) X (by decide +kernel) 0 rfl ?_
    refine g_getI X (by decide +kernel) fl11_212 px0 ?_
    refine g_goto (off := 18) (tgt := 172) X (by decide +kernel) (by decide) ?_
    refine g_sub [0] rfl ?_
    exact hJ
  · rw [if_neg c26] at hJ
    refine g_if_ne_t (off := 10) (tgt := 157) X (by decide +kernel) (by decide) c26 ?_
    refine g_aload_n (n := 0) X (by decide +kernel) 0 rfl ?_
    refine g_getI X (by decide +kernel) fl11_215 px0 ?_
    by_cases c27 : (h25.1 x0 16) ≤ 0
    · rw [if_pos c27] at hJ
      refine g_if_le_t (off := 10) (tgt := 171) X (by decide +kernel) (by decide) c27 ?_
      refine g_iconst (n := -1) (x := (-1 : Int32)) X (by decide +kernel) (by decide) ?_
      refine g_sub [0] rfl ?_
      exact hJ
    · rw [if_neg c27] at hJ
      refine g_if_le_f (off := 10) (tgt := 171) X (by decide +kernel) (by decide) c27 ?_
      refine g_aload_n (n := 0) X (by decide +kernel) 0 rfl ?_
      refine g_getI X (by decide +kernel) fl11_218 px0 ?_
      refine g_goto (off := 4) (tgt := 172) X (by decide +kernel) (by decide) ?_
      refine g_sub [0] rfl ?_
      exact hJ
set_option maxHeartbeats 4000000 in
set_option maxRecDepth 20000 in
theorem w11_readText_J123 {Γ : CT} {sp : Sp} {K : Ly} {sz n : Nat} {v : Int32} {hf : Hp}   (X : Ok Γ sp prog_13_method_32_code Rc11 3 (some (.boolean)) 7 (some (.int v)) sz K hf) (hK : LyOk K) (x0 : Nat) (x2 : Int32) (h : Hp)  (px0 : K x0 = some (.inl 11)) (E : f11_readText_J123 K n x0 x2 h = some (v, hf)) : Go Γ (0, 0) 123 [(0, .ref x0), (2, .int x2)] [] sz K h := by
  unfold f11_readText_J123 at E
  refine g_aload_n (n := 0) X (by decide +kernel) 0 rfl ?_
  refine g_getS X (by decide +kernel) fl11_17 px0 ?_
  refine g_iconst (n := 0) (x := (0 : Int32)) X (by decide +kernel) (by decide) ?_
  refine g_iload_n (n := 2) X (by decide +kernel) 1 rfl ?_
  have hJ : Go Γ (0, 0) 140 [(0, .ref x0), (2, .int x2)] [.int (if x2 = 0 then (1 : Int32) else (h.1 x0 16)), .int (0 : Int32), .ref (x0 + 3)] sz K h := by
    exact w11_readText_J140 X hK x0 x2 (x0 + 3) (0 : Int32) (if x2 = 0 then (1 : Int32) else (h.1 x0 16)) h px0 (ly hK px0 fl11_17 rfl) E
  clear E
  by_cases c20 : x2 = 0
  · rw [if_pos c20] at hJ
    refine g_if_eq_t (off := 10) (tgt := 139) X (by decide +kernel) (by decide) c20 ?_
    refine g_iconst (n := 1) (x := (1 : Int32)) X (by decide +kernel) (by decide) ?_
    exact hJ
  · rw [if_neg c20] at hJ
    refine g_if_eq_f (off := 10) (tgt := 139) X (by decide +kernel) (by decide) c20 ?_
    refine g_aload_n (n := 0) X (by decide +kernel) 0 rfl ?_
    refine g_getI X (by decide +kernel) fl11_215 px0 ?_
    refine g_goto (off := 4) (tgt := 140) X (by decide +kernel) (by decide) ?_
    exact hJ
set_option maxHeartbeats 4000000 in
set_option maxRecDepth 20000 in
theorem w11_readText_L2 {Γ : CT} {sp : Sp} {K : Ly} {sz n : Nat} {v : Int32} {hf : Hp}  (X : Ok Γ sp prog_13_method_32_code Rc11 3 (some (.boolean)) 7 (some (.int v)) sz K hf) (hK : LyOk K) (x0 : Nat) (x1 : Int32)  (px0 : K x0 = some (.inl 11))  : ∀ (k : Nat) (x2 : Int32) (h : Hp), f11_readText_L2 K n x0 x1  k x2 h = some (v, hf) → Go Γ (0, 0) 2 [(0, .ref x0), (1, .int x1), (2, .int x2)] [] sz K h := by
  intro k
  induction k with
  | zero => intro x2 h E; cases E
  | succ k ih =>
    intro x2 h E
    unfold f11_readText_L2 at E
    refine g_iload_n (n := 2) X (by decide +kernel) 2 rfl ?_
    refine g_bipush (n := 122) (x := (122 : Int32)) X (by decide +kernel) (by decide) ?_
    rcases it_E E with ⟨c1, E⟩ | ⟨c1, E⟩
    · refine g_icmp_ge_t (off := 56) (tgt := 61) X (by decide +kernel) (by decide) c1 ?_
      refine g_aload_n (n := 0) X (by decide +kernel) 0 rfl ?_
      refine g_iconst (n := -1) (x := (-1 : Int32)) X (by decide +kernel) (by decide) ?_
      obtain ⟨h2, eh2, E⟩ := lt_E E
      refine g_putI X (by decide +kernel) fp11_240 px0 eh2 ?_
      refine g_aload_n (n := 0) X (by decide +kernel) 0 rfl ?_
      refine g_iconst (n := 0) (x := (0 : Int32)) X (by decide +kernel) (by decide) ?_
      obtain ⟨h3, eh3, E⟩ := lt_E E
      refine g_putI X (by decide +kernel) fp11_189 px0 eh3 ?_
      refine g_aload_n (n := 0) X (by decide +kernel) 0 rfl ?_
      refine g_iconst (n := 0) (x := (0 : Int32)) X (by decide +kernel) (by decide) ?_
      obtain ⟨h4, eh4, E⟩ := lt_E E
      refine g_putI X (by decide +kernel) fp11_215 px0 eh4 ?_
      refine g_aload_n (n := 0) X (by decide +kernel) 0 rfl ?_
      obtain ⟨h6, e5, E⟩ := bp_E E
      refine g_callV0 (st := []) X [] (by decide +kernel) ml11_233 px0 rfl rfl (by decide) (Nat.le_of_ble_eq_true rfl) (c11_token hK x0 h4 px0 e5) ?_
      refine g_aload_n (n := 0) X (by decide +kernel) 0 rfl ?_
      refine g_iload_n (n := 1) X (by decide +kernel) 1 rfl ?_
      obtain ⟨y9, h8, e7, E⟩ := bd_E E
      refine g_callV1 (st := []) X [.int x1] (by decide +kernel) ml11_319 px0 rfl rfl (by decide) (Nat.le_of_ble_eq_true rfl) (c11_allLines hK x0 x1 h6 px0 e7) ?_
      refine s_istore_n (n := 2) (i := 2) X (by decide +kernel) rfl (by decide) rfl (ls_next (by decide) (Or.inr rfl) (ls_next (by decide) (Or.inr rfl) (ls_here ls_end))) ?_
      refine g_iload_n (n := 2) X (by decide +kernel) 2 rfl ?_
      rcases it_E E with ⟨c10, E⟩ | ⟨c10, E⟩
      · refine g_if_eq_t (off := 36) (tgt := 123) X (by decide +kernel) (by decide) c10 ?_
        refine g_sub [0, 2] rfl ?_
        exact w11_readText_J123 X hK x0 y9 h8 px0 E
      · refine g_if_eq_f (off := 36) (tgt := 123) X (by decide +kernel) (by decide) c10 ?_
        refine g_iload_n (n := 1) X (by decide +kernel) 1 rfl ?_
        rcases it_E E with ⟨c11, E⟩ | ⟨c11, E⟩
        · refine g_if_ne_f (off := 32) (tgt := 123) X (by decide +kernel) (by decide) (fun z => z c11) ?_
          refine g_aload_n (n := 0) X (by decide +kernel) 0 rfl ?_
          refine g_getI X (by decide +kernel) fl11_215 px0 ?_
          rcases it_E E with ⟨c12, E⟩ | ⟨c12, E⟩
          · refine g_if_ne_f (off := 25) (tgt := 123) X (by decide +kernel) (by decide) (fun z => z c12) ?_
            refine g_aload_n (n := 0) X (by decide +kernel) 0 rfl ?_
            refine g_getI X (by decide +kernel) fl11_240 px0 ?_
            refine g_aload_n (n := 0) X (by decide +kernel) 0 rfl ?_
            refine g_getS X (by decide +kernel) fl11_35 px0 ?_
            refine g_iconst (n := 0) (x := (0 : Int32)) X (by decide +kernel) (by decide) ?_
            refine g_iald X (by decide +kernel) (ly hK px0 fl11_35 rfl) (by decide) ?_
            rcases it_E E with ⟨c13, E⟩ | ⟨c13, E⟩
            · refine g_icmp_lt_t (off := 12) (tgt := 123) X (by decide +kernel) (by decide) c13 ?_
              refine g_sub [0, 2] rfl ?_
              exact w11_readText_J123 X hK x0 y9 h8 px0 E
            · refine g_icmp_lt_f (off := 12) (tgt := 123) X (by decide +kernel) (by decide) c13 ?_
              refine g_aload_n (n := 0) X (by decide +kernel) 0 rfl ?_
              refine g_iconst (n := 4) (x := (4 : Int32)) X (by decide +kernel) (by decide) ?_
              refine g_aload_n (n := 0) X (by decide +kernel) 0 rfl ?_
              refine g_getI X (by decide +kernel) fl11_199 px0 ?_
              obtain ⟨h15, e14, E⟩ := bp_E E
              refine g_callV0 (st := []) X [.int (4 : Int32), .int (h8.1 x0 11)] (by decide +kernel) ml11_225 px0 rfl rfl (by decide) (Nat.le_of_ble_eq_true rfl) (c11_addsFault hK x0 (4 : Int32) (h8.1 x0 11) h8 px0 e14) ?_
              refine g_sub [0, 2] rfl ?_
              exact w11_readText_J123 X hK x0 y9 h15 px0 E
          · refine g_if_ne_t (off := 25) (tgt := 123) X (by decide +kernel) (by decide) c12 ?_
            refine g_sub [0, 2] rfl ?_
            exact w11_readText_J123 X hK x0 y9 h8 px0 E
        · refine g_if_ne_t (off := 32) (tgt := 123) X (by decide +kernel) (by decide) c11 ?_
          refine g_sub [0, 2] rfl ?_
          exact w11_readText_J123 X hK x0 y9 h8 px0 E
    · refine g_icmp_ge_f (off := 56) (tgt := 61) X (by decide +kernel) (by decide) c1 ?_
      refine g_aload_n (n := 0) X (by decide +kernel) 0 rfl ?_
      refine g_getS X (by decide +kernel) fl11_35 px0 ?_
      refine g_iload_n (n := 2) X (by decide +kernel) 2 rfl ?_
      refine g_iload_n (n := 1) X (by decide +kernel) 1 rfl ?_
      have hJ : Go Γ (0, 0) 54 [(0, .ref x0), (1, .int x1), (2, .int x2)] [.int (if x1 = 0 then (if x2 = 0 then (3 : Int32) else (if x2 = (1 : Int32) then (20 : Int32) else (if (f11_in x2 (5 : Int32) (10 : Int32)) = 0 then (0 : Int32) else (2 : Int32)))) else (0 : Int32)), .int x2, .ref (x0 + 9)] sz K h := by
        exact w11_readText_J54 X hK x0 x1 x2 (x0 + 9) x2 (if x1 = 0 then (if x2 = 0 then (3 : Int32) else (if x2 = (1 : Int32) then (20 : Int32) else (if (f11_in x2 (5 : Int32) (10 : Int32)) = 0 then (0 : Int32) else (2 : Int32)))) else (0 : Int32)) h ih px0 (ly hK px0 fl11_35 rfl) E
      clear E
      by_cases c16 : x1 = 0
      · rw [if_pos c16] at hJ
        refine g_if_eq_t (off := 7) (tgt := 21) X (by decide +kernel) (by decide) c16 ?_
        refine g_iload_n (n := 2) X (by decide +kernel) 2 rfl ?_
        by_cases c17 : x2 = 0
        · rw [if_pos c17] at hJ
          refine g_if_ne_f (off := 7) (tgt := 29) X (by decide +kernel) (by decide) (fun z => z c17) ?_
          refine g_iconst (n := 3) (x := (3 : Int32)) X (by decide +kernel) (by decide) ?_
          refine g_goto (off := 28) (tgt := 54) X (by decide +kernel) (by decide) ?_
          exact hJ
        · rw [if_neg c17] at hJ
          refine g_if_ne_t (off := 7) (tgt := 29) X (by decide +kernel) (by decide) c17 ?_
          refine g_iload_n (n := 2) X (by decide +kernel) 2 rfl ?_
          refine g_iconst (n := 1) (x := (1 : Int32)) X (by decide +kernel) (by decide) ?_
          by_cases c18 : x2 = (1 : Int32)
          · rw [if_pos c18] at hJ
            refine g_icmp_ne_f (off := 8) (tgt := 39) X (by decide +kernel) (by decide) (fun z => z c18) ?_
            refine g_bipush (n := 20) (x := (20 : Int32)) X (by decide +kernel) (by decide) ?_
            refine g_goto (off := 18) (tgt := 54) X (by decide +kernel) (by decide) ?_
            exact hJ
          · rw [if_neg c18] at hJ
            refine g_icmp_ne_t (off := 8) (tgt := 39) X (by decide +kernel) (by decide) c18 ?_
            refine g_iload_n (n := 2) X (by decide +kernel) 2 rfl ?_
            refine g_iconst (n := 5) (x := (5 : Int32)) X (by decide +kernel) (by decide) ?_
            refine g_bipush (n := 10) (x := (10 : Int32)) X (by decide +kernel) (by decide) ?_
            refine g_callS1 (st := [.int x2, .ref (x0 + 9)]) X [.int x2, .int (5 : Int32), .int (10 : Int32)] (by decide +kernel) ml11_181 (by decide) (Nat.le_of_ble_eq_true rfl) (c11_in hK x2 (5 : Int32) (10 : Int32) h ) ?_
            by_cases c19 : (f11_in x2 (5 : Int32) (10 : Int32)) = 0
            · rw [if_pos c19] at hJ
              refine g_if_eq_t (off := 7) (tgt := 53) X (by decide +kernel) (by decide) c19 ?_
              refine g_iconst (n := 0) (x := (0 : Int32)) X (by decide +kernel) (by decide) ?_
              exact hJ
            · rw [if_neg c19] at hJ
              refine g_if_eq_f (off := 7) (tgt := 53) X (by decide +kernel) (by decide) c19 ?_
              refine g_iconst (n := 2) (x := (2 : Int32)) X (by decide +kernel) (by decide) ?_
              refine g_goto (off := 4) (tgt := 54) X (by decide +kernel) (by decide) ?_
              exact hJ
      · rw [if_neg c16] at hJ
        refine g_if_eq_f (off := 7) (tgt := 21) X (by decide +kernel) (by decide) c16 ?_
        refine g_iconst (n := 0) (x := (0 : Int32)) X (by decide +kernel) (by decide) ?_
        refine g_goto (off := 36) (tgt := 54) X (by decide +kernel) (by decide) ?_
        exact hJ
set_option maxHeartbeats 4000000 in
set_option maxRecDepth 20000 in
theorem c11_readText {sp : Sp} {K : Ly} {sz n : Nat} (hK : LyOk K) (o : Nat) (a1 : Int32) (h : Hp) (ho : K o = some (.inl 11)) {v : Int32} {hf : Hp} (E : f11_readText K n o a1 h = some (v, hf)) : Con sp y11_readText prog_13_method_32_code 3 (some (.boolean)) 7 0 0 [.ref o, .int a1] sz K h (some (.int v)) sz K hf := by
  refine Con.of (by decide) (Nat.le_of_ble_eq_true rfl) (fun Γ X _ => ?_)
  show Go Γ (0, 0) 0 [(0, .ref o), (1, .int a1)] [] sz K h
  unfold f11_readText at E
  refine g_iconst (n := 0) (x := (0 : Int32)) X (by decide +kernel) (by decide) ?_
  refine s_istore_n (n := 2) (i := 2) X (by decide +kernel) rfl (by decide) rfl (ls_next (by decide) (Or.inr rfl) (ls_next (by decide) (Or.inr rfl) (ls_ins ls_end))) ?_
  exact w11_readText_L2 X hK o a1 ho n (0 : Int32) h E
-- AskedNamesModel.keep
def f11_keep_L3 (K : Ly) (n : Nat) (a1n : Nat) (x0 : Nat) (x1 : Nat) (x2 : Int32) (x3 : Int32)   : Nat → Int32 → Hp → Option Hp
  | 0, _, _ => none
  | k + 1, x4, h =>
    if x2 ≤ x4 then (
    some h)
    else (
    gd (inb x4 122) <|
    gd (inb ((x2 * x3) + x4) a1n) <|
    lt (sI h x1 ((x2 * x3) + x4).toNatClampNeg (h.1 (x0 + 9) x4.toNatClampNeg)) fun h4 =>
    lt (x4 + (1 : Int32)) fun x4_5 =>
    f11_keep_L3 K n a1n x0 x1 x2 x3  k x4_5 h4)
def f11_keep (K : Ly) (n : Nat) (o : Nat) (a1 a1n : Nat) (a2 : Int32) (a3 : Int32) (h : Hp) : Option Hp :=
    f11_keep_L3 K n a1n o a1 a2 a3 n (0 : Int32) h
set_option maxHeartbeats 4000000 in
set_option maxRecDepth 20000 in
theorem w11_keep_L3 {Γ : CT} {sp : Sp} {K : Ly} {sz n : Nat} {hf : Hp}  (X : Ok Γ sp prog_13_method_33_code Rc11 5 none 1 none sz K hf) (hK : LyOk K) (a1n : Nat) (x0 : Nat) (x1 : Nat) (x2 : Int32) (x3 : Int32)  (px0 : K x0 = some (.inl 11)) (px1 : K x1 = some (.inr (0, a1n)))  : ∀ (k : Nat) (x4 : Int32) (h : Hp), f11_keep_L3 K n a1n x0 x1 x2 x3  k x4 h = some hf → Go Γ (0, 0) 3 [(0, .ref x0), (1, .ref x1), (2, .int x2), (3, .int x3), (4, .int x4)] [] sz K h := by
  intro k
  induction k with
  | zero => intro x4 h E; cases E
  | succ k ih =>
    intro x4 h E
    unfold f11_keep_L3 at E
    refine g_iload (n := 4) X (by decide +kernel) 4 rfl ?_
    refine g_iload_n (n := 2) X (by decide +kernel) 2 rfl ?_
    rcases it_E E with ⟨c1, E⟩ | ⟨c1, E⟩
    · refine g_icmp_ge_t (off := 24) (tgt := 30) X (by decide +kernel) (by decide) c1 ?_
      obtain rfl := Option.some.inj E
      exact g_return X (by decide +kernel)
    · refine g_icmp_ge_f (off := 24) (tgt := 30) X (by decide +kernel) (by decide) c1 ?_
      refine g_aload_n (n := 1) X (by decide +kernel) 1 rfl ?_
      refine g_iload_n (n := 2) X (by decide +kernel) 2 rfl ?_
      refine g_iload_n (n := 3) X (by decide +kernel) 3 rfl ?_
      refine g_imul X (by decide +kernel) ?_
      refine g_iload (n := 4) X (by decide +kernel) 4 rfl ?_
      refine g_iadd X (by decide +kernel) ?_
      refine g_aload_n (n := 0) X (by decide +kernel) 0 rfl ?_
      refine g_getS X (by decide +kernel) fl11_35 px0 ?_
      refine g_iload (n := 4) X (by decide +kernel) 4 rfl ?_
      obtain ⟨c2, E⟩ := gd_E E
      refine g_iald X (by decide +kernel) (ly hK px0 fl11_35 rfl) c2 ?_
      obtain ⟨c3, E⟩ := gd_E E
      obtain ⟨h4, eh4, E⟩ := lt_E E
      refine g_iast X (by decide +kernel) px1 c3 eh4 ?_
      obtain ⟨x4_5, ex4_5, E⟩ := lt_E E
      refine s_iinc (i := 4) (n := 1) (y := x4_5) X (by decide +kernel) 4 rfl (by decide) ex4_5 (ls_next (by decide) (Or.inr rfl) (ls_next (by decide) (Or.inr rfl) (ls_next (by decide) (Or.inr rfl) (ls_next (by decide) (Or.inr rfl) (ls_here ls_end))))) ?_
      refine g_goto (off := -24) (tgt := 3) X (by decide +kernel) (by decide) ?_
      exact ih x4_5 h4  E
set_option maxHeartbeats 4000000 in
set_option maxRecDepth 20000 in
theorem c11_keep {sp : Sp} {K : Ly} {sz n : Nat} (hK : LyOk K) (o : Nat) (a1 a1n : Nat) (a2 : Int32) (a3 : Int32) (h : Hp) (ho : K o = some (.inl 11)) (ha1 : K a1 = some (.inr (0, a1n))) {hf : Hp} (E : f11_keep K n o a1 a1n a2 a3 h = some hf) : Con sp y11_keep prog_13_method_33_code 5 none 1 0 0 [.ref o, .ref a1, .int a2, .int a3] sz K h none sz K hf := by
  refine Con.of (by decide) (Nat.le_of_ble_eq_true rfl) (fun Γ X _ => ?_)
  show Go Γ (0, 0) 0 [(0, .ref o), (1, .ref a1), (2, .int a2), (3, .int a3)] [] sz K h
  unfold f11_keep at E
  refine g_iconst (n := 0) (x := (0 : Int32)) X (by decide +kernel) (by decide) ?_
  refine s_istore (i := 4) X (by decide +kernel) (by decide) rfl (ls_next (by decide) (Or.inr rfl) (ls_next (by decide) (Or.inr rfl) (ls_next (by decide) (Or.inr rfl) (ls_next (by decide) (Or.inr rfl) (ls_ins ls_end))))) ?_
  exact w11_keep_L3 X hK a1n o a1 a2 a3 ho ha1 n (0 : Int32) h E
-- AskedNamesModel.text
def f11_text_J118 (K : Ly) (n : Nat)  (x0 : Nat) (x1 : Int32) (x3 : Int32) (s0 : Nat) (s1 : Int32) (s2 : Int32) (s3 : Int32) (h : Hp) : Option (Int32 × Hp) :=
    gd (inb s1 12) <|
    lt (sI h s0 s1.toNatClampNeg (s2 + s3)) fun h22 =>
    if x1 = 0 then (
    bp (f11_keep K n x0 (x0 + 6) 976 (122 : Int32) x3 h22) fun h25 =>
    some (x3, h25))
    else (
    if x1 = (1 : Int32) then (
    bp (f11_keep K n x0 (x0 + 7) 968 (121 : Int32) x3 h22) fun h28 =>
    some (x3, h28))
    else (
    bp (f11_keep K n x0 (x0 + 8) 136 (17 : Int32) x3 h22) fun h30 =>
    some (x3, h30)))
def f11_text_J100 (K : Ly) (n : Nat)  (x0 : Nat) (x1 : Int32) (x2 : Int32) (s0 : Int32) (h : Hp) : Option (Int32 × Hp) :=
    gd (inb x1 12) <|
    f11_text_J118 K n x0 x1 s0 (x0 + 5) x1 (h.1 (x0 + 5) x1.toNatClampNeg) (if x2 = (-1 : Int32) then (1 : Int32) else (0 : Int32)) h
def f11_text_J75 (K : Ly) (n : Nat)  (x0 : Nat) (x1 : Int32) (x2 : Int32) (h : Hp) : Option (Int32 × Hp) :=
    bd (f11_readText K n x0 x1 h) fun y15 h14 =>
    if y15 = 0 then (
    some ((-1 : Int32), h14))
    else (
    if x2 = (-1 : Int32) then (
    gd (inb x1 12) <|
    f11_text_J100 K n x0 x1 x2 (h14.1 (x0 + 5) x1.toNatClampNeg) h14)
    else (
    f11_text_J100 K n x0 x1 x2 x2 h14))
def f11_text (K : Ly) (n : Nat) (o : Nat) (a1 : Int32) (a2 : Int32) (h : Hp) : Option (Int32 × Hp) :=
    lt (sI h o 0 (0 : Int32)) fun h1 =>
    lt (sI h1 o 10 (h1.1 (o + 2) (0 : Int32).toNatClampNeg)) fun h2 =>
    lt (sI h2 (o + 2) (0 : Int32).toNatClampNeg (0 : Int32)) fun h3 =>
    lt (sI h3 (o + 3) (0 : Int32).toNatClampNeg (0 : Int32)) fun h4 =>
    lt (sI h4 (o + 4) (0 : Int32).toNatClampNeg (-1 : Int32)) fun h5 =>
    if (f11_in a1 (0 : Int32) (2 : Int32)) = 0 then (
    some ((-2 : Int32), h5))
    else (
    if a2 = (-1 : Int32) then (
    gd (inb a1 12) <|
    if (h5.1 (o + 5) a1.toNatClampNeg) = (2 : Int32) then (
    some ((-2 : Int32), h5))
    else (
    f11_text_J75 K n o a1 a2 h5))
    else (
    bp (f11_is K n o a1 a2 h5) fun y11 =>
    if y11 = 0 then (
    some ((-2 : Int32), h5))
    else (
    f11_text_J75 K n o a1 a2 h5)))
set_option maxHeartbeats 4000000 in
set_option maxRecDepth 20000 in
theorem w11_text_J118 {Γ : CT} {sp : Sp} {K : Ly} {sz n : Nat} {v : Int32} {hf : Hp}   (X : Ok Γ sp prog_13_method_34_code Rc11 4 (some (.int)) 8 (some (.int v)) sz K hf) (hK : LyOk K) (x0 : Nat) (x1 : Int32) (x3 : Int32) (s0 : Nat) (s1 : Int32) (s2 : Int32) (s3 : Int32) (h : Hp)  (px0 : K x0 = some (.inl 11)) (ps0 : K s0 = some (.inr (0, 12))) (E : f11_text_J118 K n x0 x1 x3 s0 s1 s2 s3 h = some (v, hf)) : Go Γ (0, 0) 118 [(0, .ref x0), (1, .int x1), (3, .int x3)] [.int s3, .int s2, .int s1, .ref s0] sz K h := by
  unfold f11_text_J118 at E
  refine g_iadd X (by decide +kernel) ?_
  obtain ⟨c21, E⟩ := gd_E E
  obtain ⟨h22, eh22, E⟩ := lt_E E
  refine g_iast X (by decide +kernel) ps0 c21 eh22 ?_
  refine g_iload_n (n := 1) X (by decide +kernel) 1 rfl ?_
  rcases it_E E with ⟨c23, E⟩ | ⟨c23, E⟩
  · refine g_if_ne_f (off := 17) (tgt := 138) X (by decide +kernel) (by decide) (fun z => z c23) ?_
    refine g_aload_n (n := 0) X (by decide +kernel) 0 rfl ?_
    refine g_aload_n (n := 0) X (by decide +kernel) 0 rfl ?_
    refine g_getS X (by decide +kernel) fl11_26 px0 ?_
    refine g_bipush (n := 122) (x := (122 : Int32)) X (by decide +kernel) (by decide) ?_
    refine g_iload_n (n := 3) X (by decide +kernel) 2 rfl ?_
    obtain ⟨h25, e24, E⟩ := bp_E E
    refine g_callV0 (st := []) X [.ref (x0 + 6), .int (122 : Int32), .int x3] (by decide +kernel) ml11_328 px0 rfl rfl (by decide) (Nat.le_of_ble_eq_true rfl) (c11_keep hK x0 (x0 + 6) 976 (122 : Int32) x3 h22 px0 (ly hK px0 fl11_26 rfl) e24) ?_
    refine g_goto (off := 33) (tgt := 168) X (by decide +kernel) (by decide) ?_
    refine g_iload_n (n := 3) X (by decide +kernel) 2 rfl ?_
    obtain ⟨rfl, rfl⟩ := rt_E E
    exact g_ireturn X (by decide +kernel)
  · refine g_if_ne_t (off := 17) (tgt := 138) X (by decide +kernel) (by decide) c23 ?_
    refine g_iload_n (n := 1) X (by decide +kernel) 1 rfl ?_
    refine g_iconst (n := 1) (x := (1 : Int32)) X (by decide +kernel) (by decide) ?_
    rcases it_E E with ⟨c26, E⟩ | ⟨c26, E⟩
    · refine g_icmp_ne_f (off := 17) (tgt := 157) X (by decide +kernel) (by decide) (fun z => z c26) ?_
      refine g_aload_n (n := 0) X (by decide +kernel) 0 rfl ?_
      refine g_aload_n (n := 0) X (by decide +kernel) 0 rfl ?_
      refine g_getS X (by decide +kernel) fl11_29 px0 ?_
      refine g_bipush (n := 121) (x := (121 : Int32)) X (by decide +kernel) (by decide) ?_
      refine g_iload_n (n := 3) X (by decide +kernel) 2 rfl ?_
      obtain ⟨h28, e27, E⟩ := bp_E E
      refine g_callV0 (st := []) X [.ref (x0 + 7), .int (121 : Int32), .int x3] (by decide +kernel) ml11_328 px0 rfl rfl (by decide) (Nat.le_of_ble_eq_true rfl) (c11_keep hK x0 (x0 + 7) 968 (121 : Int32) x3 h22 px0 (ly hK px0 fl11_29 rfl) e27) ?_
      refine g_goto (off := 14) (tgt := 168) X (by decide +kernel) (by decide) ?_
      refine g_iload_n (n := 3) X (by decide +kernel) 2 rfl ?_
      obtain ⟨rfl, rfl⟩ := rt_E E
      exact g_ireturn X (by decide +kernel)
    · refine g_icmp_ne_t (off := 17) (tgt := 157) X (by decide +kernel) (by decide) c26 ?_
      refine g_aload_n (n := 0) X (by decide +kernel) 0 rfl ?_
      refine g_aload_n (n := 0) X (by decide +kernel) 0 rfl ?_
      refine g_getS X (by decide +kernel) fl11_32 px0 ?_
      refine g_bipush (n := 17) (x := (17 : Int32)) X (by decide +kernel) (by decide) ?_
      refine g_iload_n (n := 3) X (by decide +kernel) 2 rfl ?_
      obtain ⟨h30, e29, E⟩ := bp_E E
      refine g_callV0 (st := []) X [.ref (x0 + 8), .int (17 : Int32), .int x3] (by decide +kernel) ml11_328 px0 rfl rfl (by decide) (Nat.le_of_ble_eq_true rfl) (c11_keep hK x0 (x0 + 8) 136 (17 : Int32) x3 h22 px0 (ly hK px0 fl11_32 rfl) e29) ?_
      refine g_iload_n (n := 3) X (by decide +kernel) 2 rfl ?_
      obtain ⟨rfl, rfl⟩ := rt_E E
      exact g_ireturn X (by decide +kernel)
set_option maxHeartbeats 4000000 in
set_option maxRecDepth 20000 in
theorem w11_text_J100 {Γ : CT} {sp : Sp} {K : Ly} {sz n : Nat} {v : Int32} {hf : Hp}   (X : Ok Γ sp prog_13_method_34_code Rc11 4 (some (.int)) 8 (some (.int v)) sz K hf) (hK : LyOk K) (x0 : Nat) (x1 : Int32) (x2 : Int32) (s0 : Int32) (h : Hp)  (px0 : K x0 = some (.inl 11)) (E : f11_text_J100 K n x0 x1 x2 s0 h = some (v, hf)) : Go Γ (0, 0) 100 [(0, .ref x0), (1, .int x1), (2, .int x2)] [.int s0] sz K h := by
  unfold f11_text_J100 at E
  refine s_istore_n (n := 3) (i := 3) X (by decide +kernel) rfl (by decide) rfl (ls_next (by decide) (Or.inr rfl) (ls_next (by decide) (Or.inr rfl) (ls_next (by decide) (Or.inr rfl) (ls_ins ls_end)))) ?_
  refine g_aload_n (n := 0) X (by decide +kernel) 0 rfl ?_
  refine g_getS X (by decide +kernel) fl11_23 px0 ?_
  refine g_iload_n (n := 1) X (by decide +kernel) 1 rfl ?_
  refine g_dup2 X (by decide +kernel) rfl rfl ?_
  obtain ⟨c19, E⟩ := gd_E E
  refine g_iald X (by decide +kernel) (ly hK px0 fl11_23 rfl) c19 ?_
  refine g_iload_n (n := 2) X (by decide +kernel) 2 rfl ?_
  refine g_iconst (n := -1) (x := (-1 : Int32)) X (by decide +kernel) (by decide) ?_
  have hJ : Go Γ (0, 0) 118 [(0, .ref x0), (1, .int x1), (3, .int s0)] [.int (if x2 = (-1 : Int32) then (1 : Int32) else (0 : Int32)), .int (h.1 (x0 + 5) x1.toNatClampNeg), .int x1, .ref (x0 + 5)] sz K h := by
    exact w11_text_J118 X hK x0 x1 s0 (x0 + 5) x1 (h.1 (x0 + 5) x1.toNatClampNeg) (if x2 = (-1 : Int32) then (1 : Int32) else (0 : Int32)) h px0 (ly hK px0 fl11_23 rfl) E
  clear E
  by_cases c20 : x2 = (-1 : Int32)
  · rw [if_pos c20] at hJ
    refine g_icmp_ne_f (off := 7) (tgt := 117) X (by decide +kernel) (by decide) (fun z => z c20) ?_
    refine g_iconst (n := 1) (x := (1 : Int32)) X (by decide +kernel) (by decide) ?_
    refine g_goto (off := 4) (tgt := 118) X (by decide +kernel) (by decide) ?_
    refine g_sub [0, 1, 3] rfl ?_
    exact hJ
  · rw [if_neg c20] at hJ
    refine g_icmp_ne_t (off := 7) (tgt := 117) X (by decide +kernel) (by decide) c20 ?_
    refine g_iconst (n := 0) (x := (0 : Int32)) X (by decide +kernel) (by decide) ?_
    refine g_sub [0, 1, 3] rfl ?_
    exact hJ
set_option maxHeartbeats 4000000 in
set_option maxRecDepth 20000 in
theorem w11_text_J75 {Γ : CT} {sp : Sp} {K : Ly} {sz n : Nat} {v : Int32} {hf : Hp}   (X : Ok Γ sp prog_13_method_34_code Rc11 4 (some (.int)) 8 (some (.int v)) sz K hf) (hK : LyOk K) (x0 : Nat) (x1 : Int32) (x2 : Int32) (h : Hp)  (px0 : K x0 = some (.inl 11)) (E : f11_text_J75 K n x0 x1 x2 h = some (v, hf)) : Go Γ (0, 0) 75 [(0, .ref x0), (1, .int x1), (2, .int x2)] [] sz K h := by
  unfold f11_text_J75 at E
  refine g_aload_n (n := 0) X (by decide +kernel) 0 rfl ?_
  refine g_iload_n (n := 1) X (by decide +kernel) 1 rfl ?_
  obtain ⟨y15, h14, e13, E⟩ := bd_E E
  refine g_callV1 (st := []) X [.int x1] (by decide +kernel) ml11_325 px0 rfl rfl (by decide) (Nat.le_of_ble_eq_true rfl) (c11_readText hK x0 x1 h px0 e13) ?_
  rcases it_E E with ⟨c16, E⟩ | ⟨c16, E⟩
  · refine g_if_ne_f (off := 5) (tgt := 85) X (by decide +kernel) (by decide) (fun z => z c16) ?_
    refine g_iconst (n := -1) (x := (-1 : Int32)) X (by decide +kernel) (by decide) ?_
    obtain ⟨rfl, rfl⟩ := rt_E E
    exact g_ireturn X (by decide +kernel)
  · refine g_if_ne_t (off := 5) (tgt := 85) X (by decide +kernel) (by decide) c16 ?_
    refine g_iload_n (n := 2) X (by decide +kernel) 2 rfl ?_
    refine g_iconst (n := -1) (x := (-1 : Int32)) X (by decide +kernel) (by decide) ?_
    rcases it_E E with ⟨c17, E⟩ | ⟨c17, E⟩
    · refine g_icmp_ne_f (off := 12) (tgt := 99) X (by decide +kernel) (by decide) (fun z => z c17) ?_
      refine g_aload_n (n := 0) X (by decide +kernel) 0 rfl ?_
      refine g_getS X (by decide +kernel) fl11_23 px0 ?_
      refine g_iload_n (n := 1) X (by decide +kernel) 1 rfl ?_
      obtain ⟨c18, E⟩ := gd_E E
      refine g_iald X (by decide +kernel) (ly hK px0 fl11_23 rfl) c18 ?_
      refine g_goto (off := 4) (tgt := 100) X (by decide +kernel) (by decide) ?_
      exact w11_text_J100 X hK x0 x1 x2 (h14.1 (x0 + 5) x1.toNatClampNeg) h14 px0 E
    · refine g_icmp_ne_t (off := 12) (tgt := 99) X (by decide +kernel) (by decide) c17 ?_
      refine g_iload_n (n := 2) X (by decide +kernel) 2 rfl ?_
      exact w11_text_J100 X hK x0 x1 x2 x2 h14 px0 E
set_option maxHeartbeats 4000000 in
set_option maxRecDepth 20000 in
theorem c11_text {sp : Sp} {K : Ly} {sz n : Nat} (hK : LyOk K) (o : Nat) (a1 : Int32) (a2 : Int32) (h : Hp) (ho : K o = some (.inl 11)) {v : Int32} {hf : Hp} (E : f11_text K n o a1 a2 h = some (v, hf)) : Con sp y11_text prog_13_method_34_code 4 (some (.int)) 8 0 0 [.ref o, .int a1, .int a2] sz K h (some (.int v)) sz K hf := by
  refine Con.of (by decide) (Nat.le_of_ble_eq_true rfl) (fun Γ X _ => ?_)
  show Go Γ (0, 0) 0 [(0, .ref o), (1, .int a1), (2, .int a2)] [] sz K h
  unfold f11_text at E
  refine g_aload_n (n := 0) X (by decide +kernel) 0 rfl ?_
  refine g_iconst (n := 0) (x := (0 : Int32)) X (by decide +kernel) (by decide) ?_
  obtain ⟨h1, eh1, E⟩ := lt_E E
  refine g_putI X (by decide +kernel) fp11_169 ho eh1 ?_
  refine g_aload_n (n := 0) X (by decide +kernel) 0 rfl ?_
  refine g_aload_n (n := 0) X (by decide +kernel) 0 rfl ?_
  refine g_getS X (by decide +kernel) fl11_13 ho ?_
  refine g_iconst (n := 0) (x := (0 : Int32)) X (by decide +kernel) (by decide) ?_
  refine g_iald X (by decide +kernel) (ly hK ho fl11_13 rfl) (by decide) ?_
  obtain ⟨h2, eh2, E⟩ := lt_E E
  refine g_putI X (by decide +kernel) fp11_192 ho eh2 ?_
  refine g_aload_n (n := 0) X (by decide +kernel) 0 rfl ?_
  refine g_getS X (by decide +kernel) fl11_13 ho ?_
  refine g_iconst (n := 0) (x := (0 : Int32)) X (by decide +kernel) (by decide) ?_
  refine g_iconst (n := 0) (x := (0 : Int32)) X (by decide +kernel) (by decide) ?_
  obtain ⟨h3, eh3, E⟩ := lt_E E
  refine g_iast X (by decide +kernel) (ly hK ho fl11_13 rfl) (by decide) eh3 ?_
  refine g_aload_n (n := 0) X (by decide +kernel) 0 rfl ?_
  refine g_getS X (by decide +kernel) fl11_17 ho ?_
  refine g_iconst (n := 0) (x := (0 : Int32)) X (by decide +kernel) (by decide) ?_
  refine g_iconst (n := 0) (x := (0 : Int32)) X (by decide +kernel) (by decide) ?_
  obtain ⟨h4, eh4, E⟩ := lt_E E
  refine g_iast X (by decide +kernel) (ly hK ho fl11_17 rfl) (by decide) eh4 ?_
  refine g_aload_n (n := 0) X (by decide +kernel) 0 rfl ?_
  refine g_getS X (by decide +kernel) fl11_20 ho ?_
  refine g_iconst (n := 0) (x := (0 : Int32)) X (by decide +kernel) (by decide) ?_
  refine g_iconst (n := -1) (x := (-1 : Int32)) X (by decide +kernel) (by decide) ?_
  obtain ⟨h5, eh5, E⟩ := lt_E E
  refine g_iast X (by decide +kernel) (ly hK ho fl11_20 rfl) (by decide) eh5 ?_
  refine g_iload_n (n := 1) X (by decide +kernel) 1 rfl ?_
  refine g_iconst (n := 0) (x := (0 : Int32)) X (by decide +kernel) (by decide) ?_
  refine g_iconst (n := 2) (x := (2 : Int32)) X (by decide +kernel) (by decide) ?_
  refine g_callS1 (st := []) X [.int a1, .int (0 : Int32), .int (2 : Int32)] (by decide +kernel) ml11_181 (by decide) (Nat.le_of_ble_eq_true rfl) (c11_in hK a1 (0 : Int32) (2 : Int32) h5 ) ?_
  rcases it_E E with ⟨c6, E⟩ | ⟨c6, E⟩
  · refine g_if_eq_t (off := 30) (tgt := 72) X (by decide +kernel) (by decide) c6 ?_
    refine g_bipush (n := -2) (x := (-2 : Int32)) X (by decide +kernel) (by decide) ?_
    obtain ⟨rfl, rfl⟩ := rt_E E
    exact g_ireturn X (by decide +kernel)
  · refine g_if_eq_f (off := 30) (tgt := 72) X (by decide +kernel) (by decide) c6 ?_
    refine g_iload_n (n := 2) X (by decide +kernel) 2 rfl ?_
    refine g_iconst (n := -1) (x := (-1 : Int32)) X (by decide +kernel) (by decide) ?_
    rcases it_E E with ⟨c7, E⟩ | ⟨c7, E⟩
    · refine g_icmp_ne_f (off := 16) (tgt := 63) X (by decide +kernel) (by decide) (fun z => z c7) ?_
      refine g_aload_n (n := 0) X (by decide +kernel) 0 rfl ?_
      refine g_getS X (by decide +kernel) fl11_23 ho ?_
      refine g_iload_n (n := 1) X (by decide +kernel) 1 rfl ?_
      obtain ⟨c8, E⟩ := gd_E E
      refine g_iald X (by decide +kernel) (ly hK ho fl11_23 rfl) c8 ?_
      refine g_iconst (n := 2) (x := (2 : Int32)) X (by decide +kernel) (by decide) ?_
      rcases it_E E with ⟨c9, E⟩ | ⟨c9, E⟩
      · refine g_icmp_ne_f (off := 18) (tgt := 75) X (by decide +kernel) (by decide) (fun z => z c9) ?_
        refine g_goto (off := 12) (tgt := 72) X (by decide +kernel) (by decide) ?_
        refine g_bipush (n := -2) (x := (-2 : Int32)) X (by decide +kernel) (by decide) ?_
        obtain ⟨rfl, rfl⟩ := rt_E E
        exact g_ireturn X (by decide +kernel)
      · refine g_icmp_ne_t (off := 18) (tgt := 75) X (by decide +kernel) (by decide) c9 ?_
        exact w11_text_J75 X hK o a1 a2 h5 ho E
    · refine g_icmp_ne_t (off := 16) (tgt := 63) X (by decide +kernel) (by decide) c7 ?_
      refine g_aload_n (n := 0) X (by decide +kernel) 0 rfl ?_
      refine g_iload_n (n := 1) X (by decide +kernel) 1 rfl ?_
      refine g_iload_n (n := 2) X (by decide +kernel) 2 rfl ?_
      obtain ⟨y11, e10, E⟩ := bp_E E
      refine g_callV1 (st := []) X [.int a1, .int a2] (by decide +kernel) ml11_322 ho rfl rfl (by decide) (Nat.le_of_ble_eq_true rfl) (c11_is hK o a1 a2 h5 ho e10) ?_
      rcases it_E E with ⟨c12, E⟩ | ⟨c12, E⟩
      · refine g_if_ne_f (off := 6) (tgt := 75) X (by decide +kernel) (by decide) (fun z => z c12) ?_
        refine g_bipush (n := -2) (x := (-2 : Int32)) X (by decide +kernel) (by decide) ?_
        obtain ⟨rfl, rfl⟩ := rt_E E
        exact g_ireturn X (by decide +kernel)
      · refine g_if_ne_t (off := 6) (tgt := 75) X (by decide +kernel) (by decide) c12 ?_
        exact w11_text_J75 X hK o a1 a2 h5 ho E
-- AskedNamesModel.fault
def f11_fault (K : Ly) (n : Nat) (o : Nat) (a1 : Int32) (h : Hp) : Option (Int32 × Hp) :=
    lt (sI h o 0 (0 : Int32)) fun h1 =>
    if a1 = 0 then (
    some ((h1.1 (o + 3) (0 : Int32).toNatClampNeg), h1))
    else (
    if a1 = (1 : Int32) then (
    some ((h1.1 (o + 4) (0 : Int32).toNatClampNeg), h1))
    else (
    some ((-1 : Int32), h1)))
set_option maxHeartbeats 4000000 in
set_option maxRecDepth 20000 in
theorem c11_fault {sp : Sp} {K : Ly} {sz n : Nat} (hK : LyOk K) (o : Nat) (a1 : Int32) (h : Hp) (ho : K o = some (.inl 11)) {v : Int32} {hf : Hp} (E : f11_fault K n o a1 h = some (v, hf)) : Con sp y11_fault prog_13_method_35_code 2 (some (.int)) 1 0 0 [.ref o, .int a1] sz K h (some (.int v)) sz K hf := by
  refine Con.of (by decide) (Nat.le_of_ble_eq_true rfl) (fun Γ X _ => ?_)
  show Go Γ (0, 0) 0 [(0, .ref o), (1, .int a1)] [] sz K h
  unfold f11_fault at E
  refine g_aload_n (n := 0) X (by decide +kernel) 0 rfl ?_
  refine g_iconst (n := 0) (x := (0 : Int32)) X (by decide +kernel) (by decide) ?_
  obtain ⟨h1, eh1, E⟩ := lt_E E
  refine g_putI X (by decide +kernel) fp11_169 ho eh1 ?_
  refine g_iload_n (n := 1) X (by decide +kernel) 1 rfl ?_
  rcases it_E E with ⟨c2, E⟩ | ⟨c2, E⟩
  · refine g_if_ne_f (off := 12) (tgt := 18) X (by decide +kernel) (by decide) (fun z => z c2) ?_
    refine g_aload_n (n := 0) X (by decide +kernel) 0 rfl ?_
    refine g_getS X (by decide +kernel) fl11_17 ho ?_
    refine g_iconst (n := 0) (x := (0 : Int32)) X (by decide +kernel) (by decide) ?_
    refine g_iald X (by decide +kernel) (ly hK ho fl11_17 rfl) (by decide) ?_
    refine g_goto (off := 18) (tgt := 33) X (by decide +kernel) (by decide) ?_
    obtain ⟨rfl, rfl⟩ := rt_E E
    exact g_ireturn X (by decide +kernel)
  · refine g_if_ne_t (off := 12) (tgt := 18) X (by decide +kernel) (by decide) c2 ?_
    refine g_iload_n (n := 1) X (by decide +kernel) 1 rfl ?_
    refine g_iconst (n := 1) (x := (1 : Int32)) X (by decide +kernel) (by decide) ?_
    rcases it_E E with ⟨c3, E⟩ | ⟨c3, E⟩
    · refine g_icmp_ne_f (off := 12) (tgt := 32) X (by decide +kernel) (by decide) (fun z => z c3) ?_
      refine g_aload_n (n := 0) X (by decide +kernel) 0 rfl ?_
      refine g_getS X (by decide +kernel) fl11_20 ho ?_
      refine g_iconst (n := 0) (x := (0 : Int32)) X (by decide +kernel) (by decide) ?_
      refine g_iald X (by decide +kernel) (ly hK ho fl11_20 rfl) (by decide) ?_
      refine g_goto (off := 4) (tgt := 33) X (by decide +kernel) (by decide) ?_
      obtain ⟨rfl, rfl⟩ := rt_E E
      exact g_ireturn X (by decide +kernel)
    · refine g_icmp_ne_t (off := 12) (tgt := 32) X (by decide +kernel) (by decide) c3 ?_
      refine g_iconst (n := -1) (x := (-1 : Int32)) X (by decide +kernel) (by decide) ?_
      obtain ⟨rfl, rfl⟩ := rt_E E
      exact g_ireturn X (by decide +kernel)
-- AskedNamesModel.ofNet
def f11_ofNet (K : Ly) (n : Nat) (o : Nat) (a1 : Int32) (h : Hp) : Option (Int32) :=
    gd (inb (((122 : Int32) * (h.1 o 22)) + a1) 976) <|
    some (h.1 (o + 6) (((122 : Int32) * (h.1 o 22)) + a1).toNatClampNeg)
set_option maxHeartbeats 4000000 in
set_option maxRecDepth 20000 in
theorem c11_ofNet {sp : Sp} {K : Ly} {sz n : Nat} (hK : LyOk K) (o : Nat) (a1 : Int32) (h : Hp) (ho : K o = some (.inl 11)) {v : Int32} (E : f11_ofNet K n o a1 h = some v) : Con sp y11_ofNet prog_13_method_36_code 2 (some (.int)) 1 0 0 [.ref o, .int a1] sz K h (some (.int v)) sz K h := by
  refine Con.of (by decide) (Nat.le_of_ble_eq_true rfl) (fun Γ X _ => ?_)
  show Go Γ (0, 0) 0 [(0, .ref o), (1, .int a1)] [] sz K h
  unfold f11_ofNet at E
  refine g_aload_n (n := 0) X (by decide +kernel) 0 rfl ?_
  refine g_getS X (by decide +kernel) fl11_26 ho ?_
  refine g_bipush (n := 122) (x := (122 : Int32)) X (by decide +kernel) (by decide) ?_
  refine g_aload_n (n := 0) X (by decide +kernel) 0 rfl ?_
  refine g_getI X (by decide +kernel) fl11_332 ho ?_
  refine g_imul X (by decide +kernel) ?_
  refine g_iload_n (n := 1) X (by decide +kernel) 1 rfl ?_
  refine g_iadd X (by decide +kernel) ?_
  obtain ⟨c1, E⟩ := gd_E E
  refine g_iald X (by decide +kernel) (ly hK ho fl11_26 rfl) c1 ?_
  obtain rfl := Option.some.inj E
  exact g_ireturn X (by decide +kernel)
-- AskedNamesModel.hasNet
def f11_hasNet (K : Ly) (n : Nat) (o : Nat) (a1 : Int32) (h : Hp) : Option (Int32 × Hp) :=
    lt (sI h o 22 a1) fun h1 =>
    bp (f11_is K n o (0 : Int32) a1 h1) fun y3 =>
    if y3 = 0 then (
    some ((0 : Int32), h1))
    else (
    bp (f11_ofNet K n o (0 : Int32) h1) fun y6 =>
    lt (sI h1 o 23 y6) fun h7 =>
    bp (f11_ofNet K n o (1 : Int32) h7) fun y9 =>
    lt (sI h7 o 24 y9) fun h10 =>
    some ((1 : Int32), h10))
set_option maxHeartbeats 4000000 in
set_option maxRecDepth 20000 in
theorem c11_hasNet {sp : Sp} {K : Ly} {sz n : Nat} (hK : LyOk K) (o : Nat) (a1 : Int32) (h : Hp) (ho : K o = some (.inl 11)) {v : Int32} {hf : Hp} (E : f11_hasNet K n o a1 h = some (v, hf)) : Con sp y11_hasNet prog_13_method_37_code 2 (some (.boolean)) 3 0 0 [.ref o, .int a1] sz K h (some (.int v)) sz K hf := by
  refine Con.of (by decide) (Nat.le_of_ble_eq_true rfl) (fun Γ X _ => ?_)
  show Go Γ (0, 0) 0 [(0, .ref o), (1, .int a1)] [] sz K h
  unfold f11_hasNet at E
  refine g_aload_n (n := 0) X (by decide +kernel) 0 rfl ?_
  refine g_iload_n (n := 1) X (by decide +kernel) 1 rfl ?_
  obtain ⟨h1, eh1, E⟩ := lt_E E
  refine g_putI X (by decide +kernel) fp11_332 ho eh1 ?_
  refine g_aload_n (n := 0) X (by decide +kernel) 0 rfl ?_
  refine g_iconst (n := 0) (x := (0 : Int32)) X (by decide +kernel) (by decide) ?_
  refine g_iload_n (n := 1) X (by decide +kernel) 1 rfl ?_
  obtain ⟨y3, e2, E⟩ := bp_E E
  refine g_callV1 (st := []) X [.int (0 : Int32), .int a1] (by decide +kernel) ml11_322 ho rfl rfl (by decide) (Nat.le_of_ble_eq_true rfl) (c11_is hK o (0 : Int32) a1 h1 ho e2) ?_
  rcases it_E E with ⟨c4, E⟩ | ⟨c4, E⟩
  · refine g_if_ne_f (off := 5) (tgt := 16) X (by decide +kernel) (by decide) (fun z => z c4) ?_
    refine g_iconst (n := 0) (x := (0 : Int32)) X (by decide +kernel) (by decide) ?_
    obtain ⟨rfl, rfl⟩ := rt_E E
    exact g_zreturn X (by decide +kernel) rfl
  · refine g_if_ne_t (off := 5) (tgt := 16) X (by decide +kernel) (by decide) c4 ?_
    refine g_aload_n (n := 0) X (by decide +kernel) 0 rfl ?_
    refine g_aload_n (n := 0) X (by decide +kernel) 0 rfl ?_
    refine g_iconst (n := 0) (x := (0 : Int32)) X (by decide +kernel) (by decide) ?_
    obtain ⟨y6, e5, E⟩ := bp_E E
    refine g_callV1 (st := [.ref o]) X [.int (0 : Int32)] (by decide +kernel) ml11_335 ho rfl rfl (by decide) (Nat.le_of_ble_eq_true rfl) (c11_ofNet hK o (0 : Int32) h1 ho e5) ?_
    obtain ⟨h7, eh7, E⟩ := lt_E E
    refine g_putI X (by decide +kernel) fp11_339 ho eh7 ?_
    refine g_aload_n (n := 0) X (by decide +kernel) 0 rfl ?_
    refine g_aload_n (n := 0) X (by decide +kernel) 0 rfl ?_
    refine g_iconst (n := 1) (x := (1 : Int32)) X (by decide +kernel) (by decide) ?_
    obtain ⟨y9, e8, E⟩ := bp_E E
    refine g_callV1 (st := [.ref o]) X [.int (1 : Int32)] (by decide +kernel) ml11_335 ho rfl rfl (by decide) (Nat.le_of_ble_eq_true rfl) (c11_ofNet hK o (1 : Int32) h7 ho e8) ?_
    obtain ⟨h10, eh10, E⟩ := lt_E E
    refine g_putI X (by decide +kernel) fp11_342 ho eh10 ?_
    refine g_iconst (n := 1) (x := (1 : Int32)) X (by decide +kernel) (by decide) ?_
    obtain ⟨rfl, rfl⟩ := rt_E E
    exact g_zreturn X (by decide +kernel) rfl
-- AskedNamesModel.isNode
def f11_isNode (K : Ly) (n : Nat) (o : Nat) (a1 : Int32) (h : Hp) : Option (Int32) :=
    gd (isB (f11_in a1 (0 : Int32) ((h.1 o 23) - (1 : Int32)))) <|
    some (f11_in a1 (0 : Int32) ((h.1 o 23) - (1 : Int32)))
set_option maxHeartbeats 4000000 in
set_option maxRecDepth 20000 in
theorem c11_isNode {sp : Sp} {K : Ly} {sz n : Nat} (hK : LyOk K) (o : Nat) (a1 : Int32) (h : Hp) (ho : K o = some (.inl 11)) {v : Int32} (E : f11_isNode K n o a1 h = some v) : Con sp y11_isNode prog_13_method_38_code 2 (some (.boolean)) 2 0 0 [.ref o, .int a1] sz K h (some (.int v)) sz K h := by
  refine Con.of (by decide) (Nat.le_of_ble_eq_true rfl) (fun Γ X _ => ?_)
  show Go Γ (0, 0) 0 [(0, .ref o), (1, .int a1)] [] sz K h
  unfold f11_isNode at E
  refine g_iload_n (n := 1) X (by decide +kernel) 1 rfl ?_
  refine g_iconst (n := 0) (x := (0 : Int32)) X (by decide +kernel) (by decide) ?_
  refine g_aload_n (n := 0) X (by decide +kernel) 0 rfl ?_
  refine g_getI X (by decide +kernel) fl11_339 ho ?_
  refine g_iconst (n := 1) (x := (1 : Int32)) X (by decide +kernel) (by decide) ?_
  refine g_isub X (by decide +kernel) ?_
  refine g_callS1 (st := []) X [.int a1, .int (0 : Int32), .int ((h.1 o 23) - (1 : Int32))] (by decide +kernel) ml11_181 (by decide) (Nat.le_of_ble_eq_true rfl) (c11_in hK a1 (0 : Int32) ((h.1 o 23) - (1 : Int32)) h ) ?_
  obtain ⟨c1, E⟩ := gd_E E
  obtain rfl := Option.some.inj E
  exact g_zreturn X (by decide +kernel) (isB_n c1)
-- AskedNamesModel.links
def f11_links (K : Ly) (n : Nat) (o : Nat) (h : Hp) : Option (Int32) :=
    bp (f11_ofNet K n o (2 : Int32) h) fun y2 =>
    some y2
set_option maxHeartbeats 4000000 in
set_option maxRecDepth 20000 in
theorem c11_links {sp : Sp} {K : Ly} {sz n : Nat} (hK : LyOk K) (o : Nat) (h : Hp) (ho : K o = some (.inl 11)) {v : Int32} (E : f11_links K n o h = some v) : Con sp y11_links prog_13_method_39_code 1 (some (.int)) 2 0 0 [.ref o] sz K h (some (.int v)) sz K h := by
  refine Con.of (by decide) (Nat.le_of_ble_eq_true rfl) (fun Γ X _ => ?_)
  show Go Γ (0, 0) 0 [(0, .ref o)] [] sz K h
  unfold f11_links at E
  refine g_aload_n (n := 0) X (by decide +kernel) 0 rfl ?_
  refine g_iconst (n := 2) (x := (2 : Int32)) X (by decide +kernel) (by decide) ?_
  obtain ⟨y2, e1, E⟩ := bp_E E
  refine g_callV1 (st := []) X [.int (2 : Int32)] (by decide +kernel) ml11_335 ho rfl rfl (by decide) (Nat.le_of_ble_eq_true rfl) (c11_ofNet hK o (2 : Int32) h ho e1) ?_
  obtain rfl := Option.some.inj E
  exact g_ireturn X (by decide +kernel)
-- AskedNamesModel.linkAt
def f11_linkAt (K : Ly) (n : Nat) (o : Nat) (a1 : Int32) (a2 : Int32) (h : Hp) : Option (Int32) :=
    bp (f11_ofNet K n o (((11 : Int32) + ((3 : Int32) * a1)) + a2) h) fun y2 =>
    some y2
set_option maxHeartbeats 4000000 in
set_option maxRecDepth 20000 in
theorem c11_linkAt {sp : Sp} {K : Ly} {sz n : Nat} (hK : LyOk K) (o : Nat) (a1 : Int32) (a2 : Int32) (h : Hp) (ho : K o = some (.inl 11)) {v : Int32} (E : f11_linkAt K n o a1 a2 h = some v) : Con sp y11_linkAt prog_13_method_40_code 3 (some (.int)) 2 0 0 [.ref o, .int a1, .int a2] sz K h (some (.int v)) sz K h := by
  refine Con.of (by decide) (Nat.le_of_ble_eq_true rfl) (fun Γ X _ => ?_)
  show Go Γ (0, 0) 0 [(0, .ref o), (1, .int a1), (2, .int a2)] [] sz K h
  unfold f11_linkAt at E
  refine g_aload_n (n := 0) X (by decide +kernel) 0 rfl ?_
  refine g_bipush (n := 11) (x := (11 : Int32)) X (by decide +kernel) (by decide) ?_
  refine g_iconst (n := 3) (x := (3 : Int32)) X (by decide +kernel) (by decide) ?_
  refine g_iload_n (n := 1) X (by decide +kernel) 1 rfl ?_
  refine g_imul X (by decide +kernel) ?_
  refine g_iadd X (by decide +kernel) ?_
  refine g_iload_n (n := 2) X (by decide +kernel) 2 rfl ?_
  refine g_iadd X (by decide +kernel) ?_
  obtain ⟨y2, e1, E⟩ := bp_E E
  refine g_callV1 (st := []) X [.int (((11 : Int32) + ((3 : Int32) * a1)) + a2)] (by decide +kernel) ml11_335 ho rfl rfl (by decide) (Nat.le_of_ble_eq_true rfl) (c11_ofNet hK o (((11 : Int32) + ((3 : Int32) * a1)) + a2) h ho e1) ?_
  obtain rfl := Option.some.inj E
  exact g_ireturn X (by decide +kernel)
-- AskedNamesModel.routes
def f11_routes (K : Ly) (n : Nat) (o : Nat) (h : Hp) : Option (Int32) :=
    bp (f11_ofNet K n o (3 : Int32) h) fun y2 =>
    some y2
set_option maxHeartbeats 4000000 in
set_option maxRecDepth 20000 in
theorem c11_routes {sp : Sp} {K : Ly} {sz n : Nat} (hK : LyOk K) (o : Nat) (h : Hp) (ho : K o = some (.inl 11)) {v : Int32} (E : f11_routes K n o h = some v) : Con sp y11_routes prog_13_method_41_code 1 (some (.int)) 2 0 0 [.ref o] sz K h (some (.int v)) sz K h := by
  refine Con.of (by decide) (Nat.le_of_ble_eq_true rfl) (fun Γ X _ => ?_)
  show Go Γ (0, 0) 0 [(0, .ref o)] [] sz K h
  unfold f11_routes at E
  refine g_aload_n (n := 0) X (by decide +kernel) 0 rfl ?_
  refine g_iconst (n := 3) (x := (3 : Int32)) X (by decide +kernel) (by decide) ?_
  obtain ⟨y2, e1, E⟩ := bp_E E
  refine g_callV1 (st := []) X [.int (3 : Int32)] (by decide +kernel) ml11_335 ho rfl rfl (by decide) (Nat.le_of_ble_eq_true rfl) (c11_ofNet hK o (3 : Int32) h ho e1) ?_
  obtain rfl := Option.some.inj E
  exact g_ireturn X (by decide +kernel)
-- AskedNamesModel.routeAt
def f11_routeAt (K : Ly) (n : Nat) (o : Nat) (a1 : Int32) (a2 : Int32) (h : Hp) : Option (Int32) :=
    bp (f11_ofNet K n o (((56 : Int32) + ((4 : Int32) * a1)) + a2) h) fun y2 =>
    some y2
set_option maxHeartbeats 4000000 in
set_option maxRecDepth 20000 in
theorem c11_routeAt {sp : Sp} {K : Ly} {sz n : Nat} (hK : LyOk K) (o : Nat) (a1 : Int32) (a2 : Int32) (h : Hp) (ho : K o = some (.inl 11)) {v : Int32} (E : f11_routeAt K n o a1 a2 h = some v) : Con sp y11_routeAt prog_13_method_42_code 3 (some (.int)) 2 0 0 [.ref o, .int a1, .int a2] sz K h (some (.int v)) sz K h := by
  refine Con.of (by decide) (Nat.le_of_ble_eq_true rfl) (fun Γ X _ => ?_)
  show Go Γ (0, 0) 0 [(0, .ref o), (1, .int a1), (2, .int a2)] [] sz K h
  unfold f11_routeAt at E
  refine g_aload_n (n := 0) X (by decide +kernel) 0 rfl ?_
  refine g_bipush (n := 56) (x := (56 : Int32)) X (by decide +kernel) (by decide) ?_
  refine g_iconst (n := 4) (x := (4 : Int32)) X (by decide +kernel) (by decide) ?_
  refine g_iload_n (n := 1) X (by decide +kernel) 1 rfl ?_
  refine g_imul X (by decide +kernel) ?_
  refine g_iadd X (by decide +kernel) ?_
  refine g_iload_n (n := 2) X (by decide +kernel) 2 rfl ?_
  refine g_iadd X (by decide +kernel) ?_
  obtain ⟨y2, e1, E⟩ := bp_E E
  refine g_callV1 (st := []) X [.int (((56 : Int32) + ((4 : Int32) * a1)) + a2)] (by decide +kernel) ml11_335 ho rfl rfl (by decide) (Nat.le_of_ble_eq_true rfl) (c11_ofNet hK o (((56 : Int32) + ((4 : Int32) * a1)) + a2) h ho e1) ?_
  obtain rfl := Option.some.inj E
  exact g_ireturn X (by decide +kernel)
-- AskedNamesModel.serves
def f11_serves (K : Ly) (n : Nat) (o : Nat) (h : Hp) : Option (Int32) :=
    bp (f11_ofNet K n o (4 : Int32) h) fun y2 =>
    some y2
set_option maxHeartbeats 4000000 in
set_option maxRecDepth 20000 in
theorem c11_serves {sp : Sp} {K : Ly} {sz n : Nat} (hK : LyOk K) (o : Nat) (h : Hp) (ho : K o = some (.inl 11)) {v : Int32} (E : f11_serves K n o h = some v) : Con sp y11_serves prog_13_method_43_code 1 (some (.int)) 2 0 0 [.ref o] sz K h (some (.int v)) sz K h := by
  refine Con.of (by decide) (Nat.le_of_ble_eq_true rfl) (fun Γ X _ => ?_)
  show Go Γ (0, 0) 0 [(0, .ref o)] [] sz K h
  unfold f11_serves at E
  refine g_aload_n (n := 0) X (by decide +kernel) 0 rfl ?_
  refine g_iconst (n := 4) (x := (4 : Int32)) X (by decide +kernel) (by decide) ?_
  obtain ⟨y2, e1, E⟩ := bp_E E
  refine g_callV1 (st := []) X [.int (4 : Int32)] (by decide +kernel) ml11_335 ho rfl rfl (by decide) (Nat.le_of_ble_eq_true rfl) (c11_ofNet hK o (4 : Int32) h ho e1) ?_
  obtain rfl := Option.some.inj E
  exact g_ireturn X (by decide +kernel)
-- AskedNamesModel.serveAt
def f11_serveAt (K : Ly) (n : Nat) (o : Nat) (a1 : Int32) (a2 : Int32) (h : Hp) : Option (Int32) :=
    bp (f11_ofNet K n o (((104 : Int32) + ((3 : Int32) * a1)) + a2) h) fun y2 =>
    some y2
set_option maxHeartbeats 4000000 in
set_option maxRecDepth 20000 in
theorem c11_serveAt {sp : Sp} {K : Ly} {sz n : Nat} (hK : LyOk K) (o : Nat) (a1 : Int32) (a2 : Int32) (h : Hp) (ho : K o = some (.inl 11)) {v : Int32} (E : f11_serveAt K n o a1 a2 h = some v) : Con sp y11_serveAt prog_13_method_44_code 3 (some (.int)) 2 0 0 [.ref o, .int a1, .int a2] sz K h (some (.int v)) sz K h := by
  refine Con.of (by decide) (Nat.le_of_ble_eq_true rfl) (fun Γ X _ => ?_)
  show Go Γ (0, 0) 0 [(0, .ref o), (1, .int a1), (2, .int a2)] [] sz K h
  unfold f11_serveAt at E
  refine g_aload_n (n := 0) X (by decide +kernel) 0 rfl ?_
  refine g_bipush (n := 104) (x := (104 : Int32)) X (by decide +kernel) (by decide) ?_
  refine g_iconst (n := 3) (x := (3 : Int32)) X (by decide +kernel) (by decide) ?_
  refine g_iload_n (n := 1) X (by decide +kernel) 1 rfl ?_
  refine g_imul X (by decide +kernel) ?_
  refine g_iadd X (by decide +kernel) ?_
  refine g_iload_n (n := 2) X (by decide +kernel) 2 rfl ?_
  refine g_iadd X (by decide +kernel) ?_
  obtain ⟨y2, e1, E⟩ := bp_E E
  refine g_callV1 (st := []) X [.int (((104 : Int32) + ((3 : Int32) * a1)) + a2)] (by decide +kernel) ml11_335 ho rfl rfl (by decide) (Nat.le_of_ble_eq_true rfl) (c11_ofNet hK o (((104 : Int32) + ((3 : Int32) * a1)) + a2) h ho e1) ?_
  obtain rfl := Option.some.inj E
  exact g_ireturn X (by decide +kernel)
-- AskedNamesModel.layLinks
def f11_layLinks_L23 (K : Ly) (n : Nat) (x0 : Nat) (x1 : Int32)   : Nat → Int32 → Hp → Option Hp
  | 0, _, _ => none
  | k + 1, x2, h =>
    bp (f11_links K n x0 h) fun y6 =>
    if y6 ≤ x2 then (
    some h)
    else (
    if x2 = x1 then (
    lt (x2 + (1 : Int32)) fun x2_9 =>
    f11_layLinks_L23 K n x0 x1  k x2_9 h)
    else (
    bp (f11_linkAt K n x0 x2 (0 : Int32) h) fun y11 =>
    bp (f11_linkAt K n x0 x2 (1 : Int32) h) fun y13 =>
    gd (inb (((6 : Int32) * y11) + y13) 36) <|
    lt (sI h (x0 + 11) (((6 : Int32) * y11) + y13).toNatClampNeg x2) fun h15 =>
    bp (f11_linkAt K n x0 x2 (1 : Int32) h15) fun y17 =>
    bp (f11_linkAt K n x0 x2 (0 : Int32) h15) fun y19 =>
    gd (inb (((6 : Int32) * y17) + y19) 36) <|
    lt (sI h15 (x0 + 11) (((6 : Int32) * y17) + y19).toNatClampNeg x2) fun h21 =>
    lt (x2 + (1 : Int32)) fun x2_22 =>
    f11_layLinks_L23 K n x0 x1  k x2_22 h21))
def f11_layLinks_L2 (K : Ly) (n : Nat) (x0 : Nat) (x1 : Int32)   : Nat → Int32 → Hp → Option Hp
  | 0, _, _ => none
  | k + 1, x2, h =>
    if (36 : Int32) ≤ x2 then (
    f11_layLinks_L23 K n x0 x1 n (0 : Int32) h)
    else (
    gd (inb x2 36) <|
    lt (sI h (x0 + 11) x2.toNatClampNeg (-1 : Int32)) fun h3 =>
    lt (x2 + (1 : Int32)) fun x2_4 =>
    f11_layLinks_L2 K n x0 x1  k x2_4 h3)
def f11_layLinks (K : Ly) (n : Nat) (o : Nat) (a1 : Int32) (h : Hp) : Option Hp :=
    f11_layLinks_L2 K n o a1 n (0 : Int32) h
set_option maxHeartbeats 4000000 in
set_option maxRecDepth 20000 in
theorem w11_layLinks_L23 {Γ : CT} {sp : Sp} {K : Ly} {sz n : Nat} {hf : Hp}  (X : Ok Γ sp prog_13_method_45_code Rc11 3 none 3 none sz K hf) (hK : LyOk K) (x0 : Nat) (x1 : Int32)  (px0 : K x0 = some (.inl 11))  : ∀ (k : Nat) (x2 : Int32) (h : Hp), f11_layLinks_L23 K n x0 x1  k x2 h = some hf → Go Γ (0, 0) 23 [(0, .ref x0), (1, .int x1), (2, .int x2)] [] sz K h := by
  intro k
  induction k with
  | zero => intro x2 h E; cases E
  | succ k ih =>
    intro x2 h E
    unfold f11_layLinks_L23 at E
    refine g_iload_n (n := 2) X (by decide +kernel) 2 rfl ?_
    refine g_aload_n (n := 0) X (by decide +kernel) 0 rfl ?_
    obtain ⟨y6, e5, E⟩ := bp_E E
    refine g_callV1 (st := [.int x2]) X [] (by decide +kernel) ml11_345 px0 rfl rfl (by decide) (Nat.le_of_ble_eq_true rfl) (c11_links hK x0 h px0 e5) ?_
    rcases it_E E with ⟨c7, E⟩ | ⟨c7, E⟩
    · refine g_icmp_ge_t (off := 58) (tgt := 86) X (by decide +kernel) (by decide) c7 ?_
      obtain rfl := Option.some.inj E
      exact g_return X (by decide +kernel)
    · refine g_icmp_ge_f (off := 58) (tgt := 86) X (by decide +kernel) (by decide) c7 ?_
      refine g_iload_n (n := 2) X (by decide +kernel) 2 rfl ?_
      refine g_iload_n (n := 1) X (by decide +kernel) 1 rfl ?_
      rcases it_E E with ⟨c8, E⟩ | ⟨c8, E⟩
      · refine g_icmp_eq_t (off := 47) (tgt := 80) X (by decide +kernel) (by decide) c8 ?_
        obtain ⟨x2_9, ex2_9, E⟩ := lt_E E
        refine s_iinc (i := 2) (n := 1) (y := x2_9) X (by decide +kernel) 2 rfl (by decide) ex2_9 (ls_next (by decide) (Or.inr rfl) (ls_next (by decide) (Or.inr rfl) (ls_here ls_end))) ?_
        refine g_goto (off := -60) (tgt := 23) X (by decide +kernel) (by decide) ?_
        exact ih x2_9 h  E
      · refine g_icmp_eq_f (off := 47) (tgt := 80) X (by decide +kernel) (by decide) c8 ?_
        refine g_aload_n (n := 0) X (by decide +kernel) 0 rfl ?_
        refine g_getS X (by decide +kernel) fl11_41 px0 ?_
        refine g_bipush (n := 6) (x := (6 : Int32)) X (by decide +kernel) (by decide) ?_
        refine g_aload_n (n := 0) X (by decide +kernel) 0 rfl ?_
        refine g_iload_n (n := 2) X (by decide +kernel) 2 rfl ?_
        refine g_iconst (n := 0) (x := (0 : Int32)) X (by decide +kernel) (by decide) ?_
        obtain ⟨y11, e10, E⟩ := bp_E E
        refine g_callV1 (st := [.int (6 : Int32), .ref (x0 + 11)]) X [.int x2, .int (0 : Int32)] (by decide +kernel) ml11_348 px0 rfl rfl (by decide) (Nat.le_of_ble_eq_true rfl) (c11_linkAt hK x0 x2 (0 : Int32) h px0 e10) ?_
        refine g_imul X (by decide +kernel) ?_
        refine g_aload_n (n := 0) X (by decide +kernel) 0 rfl ?_
        refine g_iload_n (n := 2) X (by decide +kernel) 2 rfl ?_
        refine g_iconst (n := 1) (x := (1 : Int32)) X (by decide +kernel) (by decide) ?_
        obtain ⟨y13, e12, E⟩ := bp_E E
        refine g_callV1 (st := [.int ((6 : Int32) * y11), .ref (x0 + 11)]) X [.int x2, .int (1 : Int32)] (by decide +kernel) ml11_348 px0 rfl rfl (by decide) (Nat.le_of_ble_eq_true rfl) (c11_linkAt hK x0 x2 (1 : Int32) h px0 e12) ?_
        refine g_iadd X (by decide +kernel) ?_
        refine g_iload_n (n := 2) X (by decide +kernel) 2 rfl ?_
        obtain ⟨c14, E⟩ := gd_E E
        obtain ⟨h15, eh15, E⟩ := lt_E E
        refine g_iast X (by decide +kernel) (ly hK px0 fl11_41 rfl) c14 eh15 ?_
        refine g_aload_n (n := 0) X (by decide +kernel) 0 rfl ?_
        refine g_getS X (by decide +kernel) fl11_41 px0 ?_
        refine g_bipush (n := 6) (x := (6 : Int32)) X (by decide +kernel) (by decide) ?_
        refine g_aload_n (n := 0) X (by decide +kernel) 0 rfl ?_
        refine g_iload_n (n := 2) X (by decide +kernel) 2 rfl ?_
        refine g_iconst (n := 1) (x := (1 : Int32)) X (by decide +kernel) (by decide) ?_
        obtain ⟨y17, e16, E⟩ := bp_E E
        refine g_callV1 (st := [.int (6 : Int32), .ref (x0 + 11)]) X [.int x2, .int (1 : Int32)] (by decide +kernel) ml11_348 px0 rfl rfl (by decide) (Nat.le_of_ble_eq_true rfl) (c11_linkAt hK x0 x2 (1 : Int32) h15 px0 e16) ?_
        refine g_imul X (by decide +kernel) ?_
        refine g_aload_n (n := 0) X (by decide +kernel) 0 rfl ?_
        refine g_iload_n (n := 2) X (by decide +kernel) 2 rfl ?_
        refine g_iconst (n := 0) (x := (0 : Int32)) X (by decide +kernel) (by decide) ?_
        obtain ⟨y19, e18, E⟩ := bp_E E
        refine g_callV1 (st := [.int ((6 : Int32) * y17), .ref (x0 + 11)]) X [.int x2, .int (0 : Int32)] (by decide +kernel) ml11_348 px0 rfl rfl (by decide) (Nat.le_of_ble_eq_true rfl) (c11_linkAt hK x0 x2 (0 : Int32) h15 px0 e18) ?_
        refine g_iadd X (by decide +kernel) ?_
        refine g_iload_n (n := 2) X (by decide +kernel) 2 rfl ?_
        obtain ⟨c20, E⟩ := gd_E E
        obtain ⟨h21, eh21, E⟩ := lt_E E
        refine g_iast X (by decide +kernel) (ly hK px0 fl11_41 rfl) c20 eh21 ?_
        obtain ⟨x2_22, ex2_22, E⟩ := lt_E E
        refine s_iinc (i := 2) (n := 1) (y := x2_22) X (by decide +kernel) 2 rfl (by decide) ex2_22 (ls_next (by decide) (Or.inr rfl) (ls_next (by decide) (Or.inr rfl) (ls_here ls_end))) ?_
        refine g_goto (off := -60) (tgt := 23) X (by decide +kernel) (by decide) ?_
        exact ih x2_22 h21  E
set_option maxHeartbeats 4000000 in
set_option maxRecDepth 20000 in
theorem w11_layLinks_L2 {Γ : CT} {sp : Sp} {K : Ly} {sz n : Nat} {hf : Hp}  (X : Ok Γ sp prog_13_method_45_code Rc11 3 none 3 none sz K hf) (hK : LyOk K) (x0 : Nat) (x1 : Int32)  (px0 : K x0 = some (.inl 11))  : ∀ (k : Nat) (x2 : Int32) (h : Hp), f11_layLinks_L2 K n x0 x1  k x2 h = some hf → Go Γ (0, 0) 2 [(0, .ref x0), (1, .int x1), (2, .int x2)] [] sz K h := by
  intro k
  induction k with
  | zero => intro x2 h E; cases E
  | succ k ih =>
    intro x2 h E
    unfold f11_layLinks_L2 at E
    refine g_iload_n (n := 2) X (by decide +kernel) 2 rfl ?_
    refine g_bipush (n := 36) (x := (36 : Int32)) X (by decide +kernel) (by decide) ?_
    rcases it_E E with ⟨c1, E⟩ | ⟨c1, E⟩
    · refine g_icmp_ge_t (off := 16) (tgt := 21) X (by decide +kernel) (by decide) c1 ?_
      refine g_iconst (n := 0) (x := (0 : Int32)) X (by decide +kernel) (by decide) ?_
      refine s_istore_n (n := 2) (i := 2) X (by decide +kernel) rfl (by decide) rfl (ls_next (by decide) (Or.inr rfl) (ls_next (by decide) (Or.inr rfl) (ls_here ls_end))) ?_
      exact w11_layLinks_L23 X hK x0 x1 px0 n (0 : Int32) h E
    · refine g_icmp_ge_f (off := 16) (tgt := 21) X (by decide +kernel) (by decide) c1 ?_
      refine g_aload_n (n := 0) X (by decide +kernel) 0 rfl ?_
      refine g_getS X (by decide +kernel) fl11_41 px0 ?_
      refine g_iload_n (n := 2) X (by decide +kernel) 2 rfl ?_
      refine g_iconst (n := -1) (x := (-1 : Int32)) X (by decide +kernel) (by decide) ?_
      obtain ⟨c2, E⟩ := gd_E E
      obtain ⟨h3, eh3, E⟩ := lt_E E
      refine g_iast X (by decide +kernel) (ly hK px0 fl11_41 rfl) c2 eh3 ?_
      obtain ⟨x2_4, ex2_4, E⟩ := lt_E E
      refine s_iinc (i := 2) (n := 1) (y := x2_4) X (by decide +kernel) 2 rfl (by decide) ex2_4 (ls_next (by decide) (Or.inr rfl) (ls_next (by decide) (Or.inr rfl) (ls_here ls_end))) ?_
      refine g_goto (off := -16) (tgt := 2) X (by decide +kernel) (by decide) ?_
      exact ih x2_4 h3  E
set_option maxHeartbeats 4000000 in
set_option maxRecDepth 20000 in
theorem c11_layLinks {sp : Sp} {K : Ly} {sz n : Nat} (hK : LyOk K) (o : Nat) (a1 : Int32) (h : Hp) (ho : K o = some (.inl 11)) {hf : Hp} (E : f11_layLinks K n o a1 h = some hf) : Con sp y11_layLinks prog_13_method_45_code 3 none 3 0 0 [.ref o, .int a1] sz K h none sz K hf := by
  refine Con.of (by decide) (Nat.le_of_ble_eq_true rfl) (fun Γ X _ => ?_)
  show Go Γ (0, 0) 0 [(0, .ref o), (1, .int a1)] [] sz K h
  unfold f11_layLinks at E
  refine g_iconst (n := 0) (x := (0 : Int32)) X (by decide +kernel) (by decide) ?_
  refine s_istore_n (n := 2) (i := 2) X (by decide +kernel) rfl (by decide) rfl (ls_next (by decide) (Or.inr rfl) (ls_next (by decide) (Or.inr rfl) (ls_ins ls_end))) ?_
  exact w11_layLinks_L2 X hK o a1 ho n (0 : Int32) h E
-- AskedNamesModel.isUp
def f11_isUp (K : Ly) (n : Nat) (o : Nat) (a1 : Int32) (a2 : Int32) (h : Hp) : Option (Int32) :=
    gd (inb (((6 : Int32) * a1) + a2) 36) <|
    lt (h.1 (o + 11) (((6 : Int32) * a1) + a2).toNatClampNeg) fun x3_2 =>
    some (if x3_2 = (-1 : Int32) then (0 : Int32) else (if (f11_has (h.1 o 26) x3_2) = 0 then (1 : Int32) else (0 : Int32)))
set_option maxHeartbeats 4000000 in
set_option maxRecDepth 20000 in
theorem c11_isUp {sp : Sp} {K : Ly} {sz n : Nat} (hK : LyOk K) (o : Nat) (a1 : Int32) (a2 : Int32) (h : Hp) (ho : K o = some (.inl 11)) {v : Int32} (E : f11_isUp K n o a1 a2 h = some v) : Con sp y11_isUp prog_13_method_46_code 4 (some (.boolean)) 2 0 0 [.ref o, .int a1, .int a2] sz K h (some (.int v)) sz K h := by
  refine Con.of (by decide) (Nat.le_of_ble_eq_true rfl) (fun Γ X _ => ?_)
  show Go Γ (0, 0) 0 [(0, .ref o), (1, .int a1), (2, .int a2)] [] sz K h
  unfold f11_isUp at E
  refine g_aload_n (n := 0) X (by decide +kernel) 0 rfl ?_
  refine g_getS X (by decide +kernel) fl11_41 ho ?_
  refine g_bipush (n := 6) (x := (6 : Int32)) X (by decide +kernel) (by decide) ?_
  refine g_iload_n (n := 1) X (by decide +kernel) 1 rfl ?_
  refine g_imul X (by decide +kernel) ?_
  refine g_iload_n (n := 2) X (by decide +kernel) 2 rfl ?_
  refine g_iadd X (by decide +kernel) ?_
  obtain ⟨c1, E⟩ := gd_E E
  refine g_iald X (by decide +kernel) (ly hK ho fl11_41 rfl) c1 ?_
  obtain ⟨x3_2, ex3_2, E⟩ := lt_E E
  refine s_istore_n (n := 3) (i := 3) X (by decide +kernel) rfl (by decide) ex3_2 (ls_next (by decide) (Or.inr rfl) (ls_next (by decide) (Or.inr rfl) (ls_next (by decide) (Or.inr rfl) (ls_ins ls_end)))) ?_
  refine g_iload_n (n := 3) X (by decide +kernel) 3 rfl ?_
  refine g_iconst (n := -1) (x := (-1 : Int32)) X (by decide +kernel) (by decide) ?_
  have hJ : Go Γ (0, 0) 33 [] [.int (if x3_2 = (-1 : Int32) then (0 : Int32) else (if (f11_has (h.1 o 26) x3_2) = 0 then (1 : Int32) else (0 : Int32)))] sz K h := by
    obtain rfl := Option.some.inj E
    exact g_zreturn X (by decide +kernel) (by (repeat' split) <;> rfl)
  clear E
  by_cases c3 : x3_2 = (-1 : Int32)
  · rw [if_pos c3] at hJ
    refine g_icmp_eq_t (off := 18) (tgt := 32) X (by decide +kernel) (by decide) c3 ?_
    refine g_iconst (n := 0) (x := (0 : Int32)) X (by decide +kernel) (by decide) ?_
    refine g_sub [] rfl ?_
    exact hJ
  · rw [if_neg c3] at hJ
    refine g_icmp_eq_f (off := 18) (tgt := 32) X (by decide +kernel) (by decide) c3 ?_
    refine g_aload_n (n := 0) X (by decide +kernel) 0 rfl ?_
    refine g_getI X (by decide +kernel) fl11_351 ho ?_
    refine g_iload_n (n := 3) X (by decide +kernel) 3 rfl ?_
    refine g_callS1 (st := []) X [.int (h.1 o 26), .int x3_2] (by decide +kernel) ml11_173 (by decide) (Nat.le_of_ble_eq_true rfl) (c11_has hK (h.1 o 26) x3_2 h ) ?_
    by_cases c4 : (f11_has (h.1 o 26) x3_2) = 0
    · rw [if_pos c4] at hJ
      refine g_if_ne_f (off := 7) (tgt := 32) X (by decide +kernel) (by decide) (fun z => z c4) ?_
      refine g_iconst (n := 1) (x := (1 : Int32)) X (by decide +kernel) (by decide) ?_
      refine g_goto (off := 4) (tgt := 33) X (by decide +kernel) (by decide) ?_
      refine g_sub [] rfl ?_
      exact hJ
    · rw [if_neg c4] at hJ
      refine g_if_ne_t (off := 7) (tgt := 32) X (by decide +kernel) (by decide) c4 ?_
      refine g_iconst (n := 0) (x := (0 : Int32)) X (by decide +kernel) (by decide) ?_
      refine g_sub [] rfl ?_
      exact hJ
-- AskedNamesModel.lettersOf
def f11_lettersOf_L4 (K : Ly) (n : Nat)  (h : Hp)  : Nat → Int32 → Int32 → Option (Int32)
  | 0, _, _ => none
  | k + 1, x1, x2 =>
    if x2 ≤ 0 then (
    some x1)
    else (
    lt (x1 + (1 : Int32)) fun x1_2 =>
    lt (x2 / (27 : Int32)) fun x2_3 =>
    f11_lettersOf_L4 K n h  k x1_2 x2_3)
def f11_lettersOf (K : Ly) (n : Nat) (a0 : Int32) (h : Hp) : Option (Int32) :=
    f11_lettersOf_L4 K n h n (0 : Int32) a0
set_option maxHeartbeats 4000000 in
set_option maxRecDepth 20000 in
theorem w11_lettersOf_L4 {Γ : CT} {sp : Sp} {K : Ly} {sz n : Nat} {v : Int32} {h : Hp}  (X : Ok Γ sp prog_13_method_47_code Rc11 3 (some (.int)) 1 (some (.int v)) sz K h) (hK : LyOk K)     : ∀ (k : Nat) (x1 : Int32) (x2 : Int32), f11_lettersOf_L4 K n h  k x1 x2 = some v → Go Γ (0, 0) 4 [(1, .int x1), (2, .int x2)] [] sz K h := by
  intro k
  induction k with
  | zero => intro x1 x2 E; cases E
  | succ k ih =>
    intro x1 x2 E
    unfold f11_lettersOf_L4 at E
    refine g_iload_n (n := 2) X (by decide +kernel) 1 rfl ?_
    rcases it_E E with ⟨c1, E⟩ | ⟨c1, E⟩
    · refine g_if_le_t (off := 14) (tgt := 19) X (by decide +kernel) (by decide) c1 ?_
      refine g_iload_n (n := 1) X (by decide +kernel) 0 rfl ?_
      obtain rfl := Option.some.inj E
      exact g_ireturn X (by decide +kernel)
    · refine g_if_le_f (off := 14) (tgt := 19) X (by decide +kernel) (by decide) c1 ?_
      obtain ⟨x1_2, ex1_2, E⟩ := lt_E E
      refine s_iinc (i := 1) (n := 1) (y := x1_2) X (by decide +kernel) 0 rfl (by decide) ex1_2 (ls_here (ls_next (by decide) (Or.inr rfl) ls_end)) ?_
      refine g_iload_n (n := 2) X (by decide +kernel) 1 rfl ?_
      refine g_bipush (n := 27) (x := (27 : Int32)) X (by decide +kernel) (by decide) ?_
      refine g_idiv X (by decide +kernel) (by decide) ?_
      obtain ⟨x2_3, ex2_3, E⟩ := lt_E E
      refine s_istore_n (n := 2) (i := 2) X (by decide +kernel) rfl (by decide) ex2_3 (ls_next (by decide) (Or.inr rfl) (ls_here ls_end)) ?_
      refine g_goto (off := -12) (tgt := 4) X (by decide +kernel) (by decide) ?_
      exact ih x1_2 x2_3  E
set_option maxHeartbeats 4000000 in
set_option maxRecDepth 20000 in
theorem c11_lettersOf {sp : Sp} {K : Ly} {sz n : Nat} (hK : LyOk K) (a0 : Int32) (h : Hp)  {v : Int32} (E : f11_lettersOf K n a0 h = some v) : Con sp y11_lettersOf prog_13_method_47_code 3 (some (.int)) 1 0 0 [.int a0] sz K h (some (.int v)) sz K h := by
  refine Con.of (by decide) (Nat.le_of_ble_eq_true rfl) (fun Γ X _ => ?_)
  show Go Γ (0, 0) 0 [(0, .int a0)] [] sz K h
  unfold f11_lettersOf at E
  refine g_iconst (n := 0) (x := (0 : Int32)) X (by decide +kernel) (by decide) ?_
  refine s_istore_n (n := 1) (i := 1) X (by decide +kernel) rfl (by decide) rfl (ls_next (by decide) (Or.inr rfl) (ls_ins ls_end)) ?_
  refine g_iload_n (n := 0) X (by decide +kernel) 0 rfl ?_
  refine s_istore_n (n := 2) (i := 2) X (by decide +kernel) rfl (by decide) rfl (ls_next (by decide) (Or.inr rfl) (ls_next (by decide) (Or.inr rfl) (ls_ins ls_end))) ?_
  refine g_sub [1, 2] rfl ?_
  exact w11_lettersOf_L4 X hK  n (0 : Int32) a0 E
-- AskedNamesModel.isBeginning
def f11_isBeginning_L7 (K : Ly) (n : Nat) (x0 : Int32) (h : Hp)  : Nat → Int32 → Int32 → Option (Int32)
  | 0, _, _ => none
  | k + 1, x2, x3 =>
    bp (f11_lettersOf K n x0 h) fun y4 =>
    if x3 ≤ y4 then (
    some (if x2 = x0 then (1 : Int32) else (0 : Int32)))
    else (
    lt (x2 / (27 : Int32)) fun x2_7 =>
    lt (x3 + (-1 : Int32)) fun x3_8 =>
    f11_isBeginning_L7 K n x0 h  k x2_7 x3_8)
def f11_isBeginning (K : Ly) (n : Nat) (a0 : Int32) (a1 : Int32) (h : Hp) : Option (Int32) :=
    bp (f11_lettersOf K n a1 h) fun y2 =>
    f11_isBeginning_L7 K n a0 h n a1 y2
set_option maxHeartbeats 4000000 in
set_option maxRecDepth 20000 in
theorem w11_isBeginning_L7 {Γ : CT} {sp : Sp} {K : Ly} {sz n : Nat} {v : Int32} {h : Hp}  (X : Ok Γ sp prog_13_method_48_code Rc11 4 (some (.boolean)) 2 (some (.int v)) sz K h) (hK : LyOk K) (x0 : Int32)    : ∀ (k : Nat) (x2 : Int32) (x3 : Int32), f11_isBeginning_L7 K n x0 h  k x2 x3 = some v → Go Γ (0, 0) 7 [(0, .int x0), (2, .int x2), (3, .int x3)] [] sz K h := by
  intro k
  induction k with
  | zero => intro x2 x3 E; cases E
  | succ k ih =>
    intro x2 x3 E
    unfold f11_isBeginning_L7 at E
    refine g_iload_n (n := 3) X (by decide +kernel) 2 rfl ?_
    refine g_iload_n (n := 0) X (by decide +kernel) 0 rfl ?_
    obtain ⟨y4, e3, E⟩ := bp_E E
    refine g_callS1 (st := [.int x3]) X [.int x0] (by decide +kernel) ml11_354 (by decide) (Nat.le_of_ble_eq_true rfl) (c11_lettersOf hK x0 h  e3) ?_
    rcases it_E E with ⟨c5, E⟩ | ⟨c5, E⟩
    · refine g_icmp_le_t (off := 14) (tgt := 26) X (by decide +kernel) (by decide) c5 ?_
      refine g_iload_n (n := 2) X (by decide +kernel) 1 rfl ?_
      refine g_iload_n (n := 0) X (by decide +kernel) 0 rfl ?_
      have hJ : Go Γ (0, 0) 36 [] [.int (if x2 = x0 then (1 : Int32) else (0 : Int32))] sz K h := by
        obtain rfl := Option.some.inj E
        exact g_zreturn X (by decide +kernel) (by (repeat' split) <;> rfl)
      clear E
      by_cases c6 : x2 = x0
      · rw [if_pos c6] at hJ
        refine g_icmp_ne_f (off := 7) (tgt := 35) X (by decide +kernel) (by decide) (fun z => z c6) ?_
        refine g_iconst (n := 1) (x := (1 : Int32)) X (by decide +kernel) (by decide) ?_
        refine g_goto (off := 4) (tgt := 36) X (by decide +kernel) (by decide) ?_
        refine g_sub [] rfl ?_
        exact hJ
      · rw [if_neg c6] at hJ
        refine g_icmp_ne_t (off := 7) (tgt := 35) X (by decide +kernel) (by decide) c6 ?_
        refine g_iconst (n := 0) (x := (0 : Int32)) X (by decide +kernel) (by decide) ?_
        refine g_sub [] rfl ?_
        exact hJ
    · refine g_icmp_le_f (off := 14) (tgt := 26) X (by decide +kernel) (by decide) c5 ?_
      refine g_iload_n (n := 2) X (by decide +kernel) 1 rfl ?_
      refine g_bipush (n := 27) (x := (27 : Int32)) X (by decide +kernel) (by decide) ?_
      refine g_idiv X (by decide +kernel) (by decide) ?_
      obtain ⟨x2_7, ex2_7, E⟩ := lt_E E
      refine s_istore_n (n := 2) (i := 2) X (by decide +kernel) rfl (by decide) ex2_7 (ls_next (by decide) (Or.inr rfl) (ls_here (ls_next (by decide) (Or.inr rfl) ls_end))) ?_
      obtain ⟨x3_8, ex3_8, E⟩ := lt_E E
      refine s_iinc (i := 3) (n := -1) (y := x3_8) X (by decide +kernel) 2 rfl (by decide) (by rw [show Int32.ofInt (-1) = (-1 : Int32) from by decide]; exact ex3_8) (ls_next (by decide) (Or.inr rfl) (ls_next (by decide) (Or.inr rfl) (ls_here ls_end))) ?_
      refine g_goto (off := -16) (tgt := 7) X (by decide +kernel) (by decide) ?_
      exact ih x2_7 x3_8  E
set_option maxHeartbeats 4000000 in
set_option maxRecDepth 20000 in
theorem c11_isBeginning {sp : Sp} {K : Ly} {sz n : Nat} (hK : LyOk K) (a0 : Int32) (a1 : Int32) (h : Hp)  {v : Int32} (E : f11_isBeginning K n a0 a1 h = some v) : Con sp y11_isBeginning prog_13_method_48_code 4 (some (.boolean)) 2 0 0 [.int a0, .int a1] sz K h (some (.int v)) sz K h := by
  refine Con.of (by decide) (Nat.le_of_ble_eq_true rfl) (fun Γ X _ => ?_)
  show Go Γ (0, 0) 0 [(0, .int a0), (1, .int a1)] [] sz K h
  unfold f11_isBeginning at E
  refine g_iload_n (n := 1) X (by decide +kernel) 1 rfl ?_
  refine s_istore_n (n := 2) (i := 2) X (by decide +kernel) rfl (by decide) rfl (ls_next (by decide) (Or.inr rfl) (ls_next (by decide) (Or.inr rfl) (ls_ins ls_end))) ?_
  refine g_iload_n (n := 1) X (by decide +kernel) 1 rfl ?_
  obtain ⟨y2, e1, E⟩ := bp_E E
  refine g_callS1 (st := []) X [.int a1] (by decide +kernel) ml11_354 (by decide) (Nat.le_of_ble_eq_true rfl) (c11_lettersOf hK a1 h  e1) ?_
  refine s_istore_n (n := 3) (i := 3) X (by decide +kernel) rfl (by decide) rfl (ls_next (by decide) (Or.inr rfl) (ls_next (by decide) (Or.inr rfl) (ls_next (by decide) (Or.inr rfl) (ls_ins ls_end)))) ?_
  refine g_sub [0, 2, 3] rfl ?_
  exact w11_isBeginning_L7 X hK a0 n a1 y2 E
