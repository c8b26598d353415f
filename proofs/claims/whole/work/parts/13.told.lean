-- Told.append
def f1_append_L3 (K : Ly) (n : Nat) (x0 : Nat) (x1 : Int32)   : Nat → Int32 → Hp → Option Hp
  | 0, _, _ => none
  | k + 1, x2, h =>
    if x2 < 0 then (
    some h)
    else (
    if (600 : Int32) ≤ (h.1 x0 1) then (
    some h)
    else (
    gd (inb (h.1 x0 1) 600) <|
    lt (sI h (x0 + 1) (h.1 x0 1).toNatClampNeg (((x1.toUInt32 >>> (x2.toUInt32 &&& Int32.toUInt32 31)).toInt32).toInt8.toInt32).toInt8.toInt32) fun h4 =>
    lt (sI h4 x0 1 ((h4.1 x0 1) + (1 : Int32))) fun h5 =>
    lt (x2 + (-8 : Int32)) fun x2_6 =>
    f1_append_L3 K n x0 x1  k x2_6 h5))
def f1_append (K : Ly) (n : Nat) (o : Nat) (a1 : Int32) (h : Hp) : Option Hp :=
    f1_append_L3 K n o a1 n (24 : Int32) h
set_option maxHeartbeats 4000000 in
set_option maxRecDepth 20000 in
theorem w1_append_L3 {Γ : CT} {sp : Sp} {K : Ly} {sz n : Nat} {hf : Hp}  (X : Ok Γ sp prog_11_method_2_code Rc1 3 none 1 none sz K hf) (hK : LyOk K) (x0 : Nat) (x1 : Int32)  (px0 : K x0 = some (.inl 1))  : ∀ (k : Nat) (x2 : Int32) (h : Hp), f1_append_L3 K n x0 x1  k x2 h = some hf → Go Γ (0, 0) 3 [(0, .ref x0), (1, .int x1), (2, .int x2)] [] sz K h := by
  intro k
  induction k with
  | zero => intro x2 h E; cases E
  | succ k ih =>
    intro x2 h E
    unfold f1_append_L3 at E
    refine g_iload_n (n := 2) X (by decide +kernel) 2 rfl ?_
    rcases it_E E with ⟨c1, E⟩ | ⟨c1, E⟩
    · refine g_if_lt_t (off := 42) (tgt := 46) X (by decide +kernel) (by decide) c1 ?_
      obtain rfl := Option.some.inj E
      exact g_return X (by decide +kernel)
    · refine g_if_lt_f (off := 42) (tgt := 46) X (by decide +kernel) (by decide) c1 ?_
      refine g_aload_n (n := 0) X (by decide +kernel) 0 rfl ?_
      refine g_getI X (by decide +kernel) fl1_15 px0 ?_
      refine g_sipush (n := 600) (x := (600 : Int32)) X (by decide +kernel) (by decide) ?_
      rcases it_E E with ⟨c2, E⟩ | ⟨c2, E⟩
      · refine g_icmp_ge_t (off := 32) (tgt := 46) X (by decide +kernel) (by decide) c2 ?_
        obtain rfl := Option.some.inj E
        exact g_return X (by decide +kernel)
      · refine g_icmp_ge_f (off := 32) (tgt := 46) X (by decide +kernel) (by decide) c2 ?_
        refine g_aload_n (n := 0) X (by decide +kernel) 0 rfl ?_
        refine g_getS X (by decide +kernel) fl1_9 px0 ?_
        refine g_aload_n (n := 0) X (by decide +kernel) 0 rfl ?_
        refine g_getI X (by decide +kernel) fl1_15 px0 ?_
        refine g_iload_n (n := 1) X (by decide +kernel) 1 rfl ?_
        refine g_iload_n (n := 2) X (by decide +kernel) 2 rfl ?_
        refine g_iushr X (by decide +kernel) ?_
        refine g_i2b X (by decide +kernel) ?_
        obtain ⟨c3, E⟩ := gd_E E
        obtain ⟨h4, eh4, E⟩ := lt_E E
        refine g_bast X (by decide +kernel) (ly hK px0 fl1_9 rfl) c3 eh4 ?_
        refine g_aload_n (n := 0) X (by decide +kernel) 0 rfl ?_
        refine g_dup X (by decide +kernel) rfl ?_
        refine g_getI X (by decide +kernel) fl1_15 px0 ?_
        refine g_iconst (n := 1) (x := (1 : Int32)) X (by decide +kernel) (by decide) ?_
        refine g_iadd X (by decide +kernel) ?_
        obtain ⟨h5, eh5, E⟩ := lt_E E
        refine g_putI X (by decide +kernel) fp1_15 px0 eh5 ?_
        obtain ⟨x2_6, ex2_6, E⟩ := lt_E E
        refine s_iinc (i := 2) (n := -8) (y := x2_6) X (by decide +kernel) 2 rfl (by decide) (by rw [show Int32.ofInt (-8) = (-8 : Int32) from by decide]; exact ex2_6) (ls_next (by decide) (Or.inr rfl) (ls_next (by decide) (Or.inr rfl) (ls_here ls_end))) ?_
        refine g_goto (off := -40) (tgt := 3) X (by decide +kernel) (by decide) ?_
        exact ih x2_6 h5  E
set_option maxHeartbeats 4000000 in
set_option maxRecDepth 20000 in
theorem c1_append {sp : Sp} {K : Ly} {sz n : Nat} (hK : LyOk K) (o : Nat) (a1 : Int32) (h : Hp) (ho : K o = some (.inl 1)) {hf : Hp} (E : f1_append K n o a1 h = some hf) : Con sp y1_append prog_11_method_2_code 3 none 1 0 0 [.ref o, .int a1] sz K h none sz K hf := by
  refine Con.of (by decide) (Nat.le_of_ble_eq_true rfl) (fun Γ X _ => ?_)
  show Go Γ (0, 0) 0 [(0, .ref o), (1, .int a1)] [] sz K h
  unfold f1_append at E
  refine g_bipush (n := 24) (x := (24 : Int32)) X (by decide +kernel) (by decide) ?_
  refine s_istore_n (n := 2) (i := 2) X (by decide +kernel) rfl (by decide) rfl (ls_next (by decide) (Or.inr rfl) (ls_next (by decide) (Or.inr rfl) (ls_ins ls_end))) ?_
  exact w1_append_L3 X hK o a1 ho n (24 : Int32) h E
-- Reader.isLetter
def f5_isLetter (a0 : Int32) : Int32 :=
    (if a0 < (97 : Int32) then (0 : Int32) else (if (122 : Int32) < a0 then (0 : Int32) else (1 : Int32)))
set_option maxHeartbeats 4000000 in
set_option maxRecDepth 20000 in
theorem c5_isLetter {sp : Sp} {K : Ly} {sz : Nat} (hK : LyOk K) (a0 : Int32) (h : Hp)  : Con sp y5_isLetter prog_8_method_16_code 1 (some (.boolean)) 1 0 0 [.int a0] sz K h (some (.int (f5_isLetter a0))) sz K h := by
  obtain ⟨v, E⟩ : ∃ v, f5_isLetter a0 = v := ⟨_, rfl⟩
  rw [E]
  refine Con.of (by decide) (Nat.le_of_ble_eq_true rfl) (fun Γ X _ => ?_)
  show Go Γ (0, 0) 0 [(0, .int a0)] [] sz K h
  unfold f5_isLetter at E
  refine g_iload_n (n := 0) X (by decide +kernel) 0 rfl ?_
  refine g_bipush (n := 97) (x := (97 : Int32)) X (by decide +kernel) (by decide) ?_
  have hJ : Go Γ (0, 0) 17 [] [.int (if a0 < (97 : Int32) then (0 : Int32) else (if (122 : Int32) < a0 then (0 : Int32) else (1 : Int32)))] sz K h := by
    subst E
    exact g_zreturn X (by decide +kernel) (by (repeat' split) <;> rfl)
  clear E
  by_cases c1 : a0 < (97 : Int32)
  · rw [if_pos c1] at hJ
    refine g_icmp_lt_t (off := 13) (tgt := 16) X (by decide +kernel) (by decide) c1 ?_
    refine g_iconst (n := 0) (x := (0 : Int32)) X (by decide +kernel) (by decide) ?_
    refine g_sub [] rfl ?_
    exact hJ
  · rw [if_neg c1] at hJ
    refine g_icmp_lt_f (off := 13) (tgt := 16) X (by decide +kernel) (by decide) c1 ?_
    refine g_iload_n (n := 0) X (by decide +kernel) 0 rfl ?_
    refine g_bipush (n := 122) (x := (122 : Int32)) X (by decide +kernel) (by decide) ?_
    by_cases c2 : (122 : Int32) < a0
    · rw [if_pos c2] at hJ
      refine g_icmp_gt_t (off := 7) (tgt := 16) X (by decide +kernel) (by decide) c2 ?_
      refine g_iconst (n := 0) (x := (0 : Int32)) X (by decide +kernel) (by decide) ?_
      refine g_sub [] rfl ?_
      exact hJ
    · rw [if_neg c2] at hJ
      refine g_icmp_gt_f (off := 7) (tgt := 16) X (by decide +kernel) (by decide) c2 ?_
      refine g_iconst (n := 1) (x := (1 : Int32)) X (by decide +kernel) (by decide) ?_
      refine g_goto (off := 4) (tgt := 17) X (by decide +kernel) (by decide) ?_
      refine g_sub [] rfl ?_
      exact hJ
-- Reader.takeWord
def f5_takeWord_J76 (K : Ly) (n : Nat) (r10 : Hp → Option Hp) (x0 : Nat) (s0 : Nat) (s1 : Int32) (h : Hp) : Option Hp :=
    lt (sI h s0 10 s1) fun h10 =>
    lt (sI h10 x0 7 ((h10.1 x0 7) + (1 : Int32))) fun h11 =>
    r10  h11
def f5_takeWord_L10 (K : Ly) (n : Nat) (x0 : Nat)   : Nat → Hp → Option Hp
  | 0, _ => none
  | k + 1, h =>
    if (h.1 x0 5) ≤ (h.1 x0 7) then (
    some h)
    else (
    oa (h.2.2 x0 4) K 1 fun o4 o4n =>
    gd (inb (h.1 x0 7) o4n) <|
    if (f5_isLetter (h.1 o4 (h.1 x0 7).toNatClampNeg)) = 0 then (
    some h)
    else (
    if (4 : Int32) ≤ ((h.1 x0 7) - (h.1 x0 9)) then (
    f5_takeWord_J76 K n (f5_takeWord_L10 K n x0  k) x0 x0 (-1 : Int32) h)
    else (
    oa (h.2.2 x0 4) K 1 fun o8 o8n =>
    gd (inb (h.1 x0 7) o8n) <|
    f5_takeWord_J76 K n (f5_takeWord_L10 K n x0  k) x0 x0 (((((h.1 x0 10) * (27 : Int32)) + (h.1 o8 (h.1 x0 7).toNatClampNeg)) - (97 : Int32)) + (1 : Int32)) h)))
def f5_takeWord (K : Ly) (n : Nat) (o : Nat) (h : Hp) : Option Hp :=
    lt (sI h o 8 (1 : Int32)) fun h1 =>
    lt (sI h1 o 10 (0 : Int32)) fun h2 =>
    f5_takeWord_L10 K n o n h2
set_option maxHeartbeats 4000000 in
set_option maxRecDepth 20000 in
theorem w5_takeWord_J76 {Γ : CT} {sp : Sp} {K : Ly} {sz n : Nat} {hf : Hp}  {r10 : Hp → Option Hp}  (X : Ok Γ sp prog_8_method_14_code Rc5 1 none 2 none sz K hf) (hK : LyOk K) (x0 : Nat) (s0 : Nat) (s1 : Int32) (h : Hp) (hr10 : ∀ (h : Hp), r10  h = some hf → Go Γ (0, 0) 10 [(0, .ref x0)] [] sz K h) (px0 : K x0 = some (.inl 5)) (ps0 : K s0 = some (.inl 5)) (E : f5_takeWord_J76 K n r10 x0 s0 s1 h = some hf) : Go Γ (0, 0) 76 [(0, .ref x0)] [.int s1, .ref s0] sz K h := by
  unfold f5_takeWord_J76 at E
  obtain ⟨h10, eh10, E⟩ := lt_E E
  refine g_putI X (by decide +kernel) fp5_56 ps0 eh10 ?_
  refine g_aload_n (n := 0) X (by decide +kernel) 0 rfl ?_
  refine g_dup X (by decide +kernel) rfl ?_
  refine g_getI X (by decide +kernel) fl5_47 px0 ?_
  refine g_iconst (n := 1) (x := (1 : Int32)) X (by decide +kernel) (by decide) ?_
  refine g_iadd X (by decide +kernel) ?_
  obtain ⟨h11, eh11, E⟩ := lt_E E
  refine g_putI X (by decide +kernel) fp5_47 px0 eh11 ?_
  refine g_goto (off := -79) (tgt := 10) X (by decide +kernel) (by decide) ?_
  exact hr10 h11  E
set_option maxHeartbeats 4000000 in
set_option maxRecDepth 20000 in
theorem w5_takeWord_L10 {Γ : CT} {sp : Sp} {K : Ly} {sz n : Nat} {hf : Hp}  (X : Ok Γ sp prog_8_method_14_code Rc5 1 none 2 none sz K hf) (hK : LyOk K) (x0 : Nat)  (px0 : K x0 = some (.inl 5))  : ∀ (k : Nat)  (h : Hp), f5_takeWord_L10 K n x0  k h = some hf → Go Γ (0, 0) 10 [(0, .ref x0)] [] sz K h := by
  intro k
  induction k with
  | zero => intro h E; cases E
  | succ k ih =>
    intro h E
    unfold f5_takeWord_L10 at E
    refine g_aload_n (n := 0) X (by decide +kernel) 0 rfl ?_
    refine g_getI X (by decide +kernel) fl5_47 px0 ?_
    refine g_aload_n (n := 0) X (by decide +kernel) 0 rfl ?_
    refine g_getI X (by decide +kernel) fl5_40 px0 ?_
    rcases it_E E with ⟨c3, E⟩ | ⟨c3, E⟩
    · refine g_icmp_ge_t (off := 74) (tgt := 92) X (by decide +kernel) (by decide) c3 ?_
      obtain rfl := Option.some.inj E
      exact g_return X (by decide +kernel)
    · refine g_icmp_ge_f (off := 74) (tgt := 92) X (by decide +kernel) (by decide) c3 ?_
      refine g_aload_n (n := 0) X (by decide +kernel) 0 rfl ?_
      obtain ⟨o4, o4n, qo4, po4, E⟩ := oa_E E
      refine g_getR X (by decide +kernel) fl5_36 px0 qo4 ?_
      refine g_aload_n (n := 0) X (by decide +kernel) 0 rfl ?_
      refine g_getI X (by decide +kernel) fl5_47 px0 ?_
      obtain ⟨c5, E⟩ := gd_E E
      refine g_bald X (by decide +kernel) po4 c5 ?_
      refine g_callS1 (st := []) X [.int (h.1 o4 (h.1 x0 7).toNatClampNeg)] (by decide +kernel) ml5_210 (by decide) (Nat.le_of_ble_eq_true rfl) (c5_isLetter hK (h.1 o4 (h.1 x0 7).toNatClampNeg) h ) ?_
      rcases it_E E with ⟨c6, E⟩ | ⟨c6, E⟩
      · refine g_if_eq_t (off := 59) (tgt := 92) X (by decide +kernel) (by decide) c6 ?_
        obtain rfl := Option.some.inj E
        exact g_return X (by decide +kernel)
      · refine g_if_eq_f (off := 59) (tgt := 92) X (by decide +kernel) (by decide) c6 ?_
        refine g_aload_n (n := 0) X (by decide +kernel) 0 rfl ?_
        refine g_aload_n (n := 0) X (by decide +kernel) 0 rfl ?_
        refine g_getI X (by decide +kernel) fl5_47 px0 ?_
        refine g_aload_n (n := 0) X (by decide +kernel) 0 rfl ?_
        refine g_getI X (by decide +kernel) fl5_53 px0 ?_
        refine g_isub X (by decide +kernel) ?_
        refine g_iconst (n := 4) (x := (4 : Int32)) X (by decide +kernel) (by decide) ?_
        rcases it_E E with ⟨c7, E⟩ | ⟨c7, E⟩
        · refine g_icmp_ge_t (off := 28) (tgt := 75) X (by decide +kernel) (by decide) c7 ?_
          refine g_iconst (n := -1) (x := (-1 : Int32)) X (by decide +kernel) (by decide) ?_
          exact w5_takeWord_J76 X hK x0 x0 (-1 : Int32) h ih px0 px0 E
        · refine g_icmp_ge_f (off := 28) (tgt := 75) X (by decide +kernel) (by decide) c7 ?_
          refine g_aload_n (n := 0) X (by decide +kernel) 0 rfl ?_
          refine g_getI X (by decide +kernel) fl5_56 px0 ?_
          refine g_bipush (n := 27) (x := (27 : Int32)) X (by decide +kernel) (by decide) ?_
          refine g_imul X (by decide +kernel) ?_
          refine g_aload_n (n := 0) X (by decide +kernel) 0 rfl ?_
          obtain ⟨o8, o8n, qo8, po8, E⟩ := oa_E E
          refine g_getR X (by decide +kernel) fl5_36 px0 qo8 ?_
          refine g_aload_n (n := 0) X (by decide +kernel) 0 rfl ?_
          refine g_getI X (by decide +kernel) fl5_47 px0 ?_
          obtain ⟨c9, E⟩ := gd_E E
          refine g_bald X (by decide +kernel) po8 c9 ?_
          refine g_iadd X (by decide +kernel) ?_
          refine g_bipush (n := 97) (x := (97 : Int32)) X (by decide +kernel) (by decide) ?_
          refine g_isub X (by decide +kernel) ?_
          refine g_iconst (n := 1) (x := (1 : Int32)) X (by decide +kernel) (by decide) ?_
          refine g_iadd X (by decide +kernel) ?_
          refine g_goto (off := 4) (tgt := 76) X (by decide +kernel) (by decide) ?_
          exact w5_takeWord_J76 X hK x0 x0 (((((h.1 x0 10) * (27 : Int32)) + (h.1 o8 (h.1 x0 7).toNatClampNeg)) - (97 : Int32)) + (1 : Int32)) h ih px0 px0 E
set_option maxHeartbeats 4000000 in
set_option maxRecDepth 20000 in
theorem c5_takeWord {sp : Sp} {K : Ly} {sz n : Nat} (hK : LyOk K) (o : Nat) (h : Hp) (ho : K o = some (.inl 5)) {hf : Hp} (E : f5_takeWord K n o h = some hf) : Con sp y5_takeWord prog_8_method_14_code 1 none 2 0 0 [.ref o] sz K h none sz K hf := by
  refine Con.of (by decide) (Nat.le_of_ble_eq_true rfl) (fun Γ X _ => ?_)
  show Go Γ (0, 0) 0 [(0, .ref o)] [] sz K h
  unfold f5_takeWord at E
  refine g_aload_n (n := 0) X (by decide +kernel) 0 rfl ?_
  refine g_iconst (n := 1) (x := (1 : Int32)) X (by decide +kernel) (by decide) ?_
  obtain ⟨h1, eh1, E⟩ := lt_E E
  refine g_putI X (by decide +kernel) fp5_50 ho eh1 ?_
  refine g_aload_n (n := 0) X (by decide +kernel) 0 rfl ?_
  refine g_iconst (n := 0) (x := (0 : Int32)) X (by decide +kernel) (by decide) ?_
  obtain ⟨h2, eh2, E⟩ := lt_E E
  refine g_putI X (by decide +kernel) fp5_56 ho eh2 ?_
  exact w5_takeWord_L10 X hK o ho n h2 E
-- Reader.isDigit
def f5_isDigit (a0 : Int32) : Int32 :=
    (if a0 < (48 : Int32) then (0 : Int32) else (if (57 : Int32) < a0 then (0 : Int32) else (1 : Int32)))
set_option maxHeartbeats 4000000 in
set_option maxRecDepth 20000 in
theorem c5_isDigit {sp : Sp} {K : Ly} {sz : Nat} (hK : LyOk K) (a0 : Int32) (h : Hp)  : Con sp y5_isDigit prog_8_method_17_code 1 (some (.boolean)) 1 0 0 [.int a0] sz K h (some (.int (f5_isDigit a0))) sz K h := by
  obtain ⟨v, E⟩ : ∃ v, f5_isDigit a0 = v := ⟨_, rfl⟩
  rw [E]
  refine Con.of (by decide) (Nat.le_of_ble_eq_true rfl) (fun Γ X _ => ?_)
  show Go Γ (0, 0) 0 [(0, .int a0)] [] sz K h
  unfold f5_isDigit at E
  refine g_iload_n (n := 0) X (by decide +kernel) 0 rfl ?_
  refine g_bipush (n := 48) (x := (48 : Int32)) X (by decide +kernel) (by decide) ?_
  have hJ : Go Γ (0, 0) 17 [] [.int (if a0 < (48 : Int32) then (0 : Int32) else (if (57 : Int32) < a0 then (0 : Int32) else (1 : Int32)))] sz K h := by
    subst E
    exact g_zreturn X (by decide +kernel) (by (repeat' split) <;> rfl)
  clear E
  by_cases c1 : a0 < (48 : Int32)
  · rw [if_pos c1] at hJ
    refine g_icmp_lt_t (off := 13) (tgt := 16) X (by decide +kernel) (by decide) c1 ?_
    refine g_iconst (n := 0) (x := (0 : Int32)) X (by decide +kernel) (by decide) ?_
    refine g_sub [] rfl ?_
    exact hJ
  · rw [if_neg c1] at hJ
    refine g_icmp_lt_f (off := 13) (tgt := 16) X (by decide +kernel) (by decide) c1 ?_
    refine g_iload_n (n := 0) X (by decide +kernel) 0 rfl ?_
    refine g_bipush (n := 57) (x := (57 : Int32)) X (by decide +kernel) (by decide) ?_
    by_cases c2 : (57 : Int32) < a0
    · rw [if_pos c2] at hJ
      refine g_icmp_gt_t (off := 7) (tgt := 16) X (by decide +kernel) (by decide) c2 ?_
      refine g_iconst (n := 0) (x := (0 : Int32)) X (by decide +kernel) (by decide) ?_
      refine g_sub [] rfl ?_
      exact hJ
    · rw [if_neg c2] at hJ
      refine g_icmp_gt_f (off := 7) (tgt := 16) X (by decide +kernel) (by decide) c2 ?_
      refine g_iconst (n := 1) (x := (1 : Int32)) X (by decide +kernel) (by decide) ?_
      refine g_goto (off := 4) (tgt := 17) X (by decide +kernel) (by decide) ?_
      refine g_sub [] rfl ?_
      exact hJ
-- Reader.takeNumber
def f5_takeNumber_J69 (K : Ly) (n : Nat) (r5 : Hp → Option Hp) (x0 : Nat) (s0 : Nat) (s1 : Int32) (h : Hp) : Option Hp :=
    lt (sI h s0 10 s1) fun h10 =>
    lt (sI h10 x0 7 ((h10.1 x0 7) + (1 : Int32))) fun h11 =>
    r5  h11
def f5_takeNumber_J99 (K : Ly) (n : Nat)  (s0 : Nat) (s1 : Int32) (h : Hp) : Option Hp :=
    lt (sI h s0 8 s1) fun h12 =>
    some h12
def f5_takeNumber_J85 (K : Ly) (n : Nat)  (x0 : Nat) (h : Hp) : Option Hp :=
    f5_takeNumber_J99 K n x0 (if (h.1 x0 10) = (-1 : Int32) then (4 : Int32) else (2 : Int32)) h
def f5_takeNumber_L5 (K : Ly) (n : Nat) (x0 : Nat)   : Nat → Hp → Option Hp
  | 0, _ => none
  | k + 1, h =>
    if (h.1 x0 5) ≤ (h.1 x0 7) then (
    f5_takeNumber_J85 K n x0 h)
    else (
    oa (h.2.2 x0 4) K 1 fun o3 o3n =>
    gd (inb (h.1 x0 7) o3n) <|
    if (f5_isDigit (h.1 o3 (h.1 x0 7).toNatClampNeg)) = 0 then (
    f5_takeNumber_J85 K n x0 h)
    else (
    if (2 : Int32) ≤ ((h.1 x0 7) - (h.1 x0 9)) then (
    f5_takeNumber_J69 K n (f5_takeNumber_L5 K n x0  k) x0 x0 (-1 : Int32) h)
    else (
    oa (h.2.2 x0 4) K 1 fun o7 o7n =>
    gd (inb (h.1 x0 7) o7n) <|
    f5_takeNumber_J69 K n (f5_takeNumber_L5 K n x0  k) x0 x0 ((((h.1 x0 10) * (10 : Int32)) + (h.1 o7 (h.1 x0 7).toNatClampNeg)) - (48 : Int32)) h)))
def f5_takeNumber (K : Ly) (n : Nat) (o : Nat) (h : Hp) : Option Hp :=
    lt (sI h o 10 (0 : Int32)) fun h1 =>
    f5_takeNumber_L5 K n o n h1
set_option maxHeartbeats 4000000 in
set_option maxRecDepth 20000 in
theorem w5_takeNumber_J69 {Γ : CT} {sp : Sp} {K : Ly} {sz n : Nat} {hf : Hp}  {r5 : Hp → Option Hp}  (X : Ok Γ sp prog_8_method_15_code Rc5 1 none 2 none sz K hf) (hK : LyOk K) (x0 : Nat) (s0 : Nat) (s1 : Int32) (h : Hp) (hr5 : ∀ (h : Hp), r5  h = some hf → Go Γ (0, 0) 5 [(0, .ref x0)] [] sz K h) (px0 : K x0 = some (.inl 5)) (ps0 : K s0 = some (.inl 5)) (E : f5_takeNumber_J69 K n r5 x0 s0 s1 h = some hf) : Go Γ (0, 0) 69 [(0, .ref x0)] [.int s1, .ref s0] sz K h := by
  unfold f5_takeNumber_J69 at E
  obtain ⟨h10, eh10, E⟩ := lt_E E
  refine g_putI X (by decide +kernel) fp5_56 ps0 eh10 ?_
  refine g_aload_n (n := 0) X (by decide +kernel) 0 rfl ?_
  refine g_dup X (by decide +kernel) rfl ?_
  refine g_getI X (by decide +kernel) fl5_47 px0 ?_
  refine g_iconst (n := 1) (x := (1 : Int32)) X (by decide +kernel) (by decide) ?_
  refine g_iadd X (by decide +kernel) ?_
  obtain ⟨h11, eh11, E⟩ := lt_E E
  refine g_putI X (by decide +kernel) fp5_47 px0 eh11 ?_
  refine g_goto (off := -77) (tgt := 5) X (by decide +kernel) (by decide) ?_
  exact hr5 h11  E
set_option maxHeartbeats 4000000 in
set_option maxRecDepth 20000 in
theorem w5_takeNumber_J99 {Γ : CT} {sp : Sp} {K : Ly} {sz n : Nat} {hf : Hp}   (X : Ok Γ sp prog_8_method_15_code Rc5 1 none 2 none sz K hf) (hK : LyOk K) (s0 : Nat) (s1 : Int32) (h : Hp)  (ps0 : K s0 = some (.inl 5)) (E : f5_takeNumber_J99 K n s0 s1 h = some hf) : Go Γ (0, 0) 99 [] [.int s1, .ref s0] sz K h := by
  unfold f5_takeNumber_J99 at E
  obtain ⟨h12, eh12, E⟩ := lt_E E
  refine g_putI X (by decide +kernel) fp5_50 ps0 eh12 ?_
  obtain rfl := Option.some.inj E
  exact g_return X (by decide +kernel)
set_option maxHeartbeats 4000000 in
set_option maxRecDepth 20000 in
theorem w5_takeNumber_J85 {Γ : CT} {sp : Sp} {K : Ly} {sz n : Nat} {hf : Hp}   (X : Ok Γ sp prog_8_method_15_code Rc5 1 none 2 none sz K hf) (hK : LyOk K) (x0 : Nat) (h : Hp)  (px0 : K x0 = some (.inl 5)) (E : f5_takeNumber_J85 K n x0 h = some hf) : Go Γ (0, 0) 85 [(0, .ref x0)] [] sz K h := by
  unfold f5_takeNumber_J85 at E
  refine g_aload_n (n := 0) X (by decide +kernel) 0 rfl ?_
  refine g_aload_n (n := 0) X (by decide +kernel) 0 rfl ?_
  refine g_getI X (by decide +kernel) fl5_56 px0 ?_
  refine g_iconst (n := -1) (x := (-1 : Int32)) X (by decide +kernel) (by decide) ?_
  have hJ : Go Γ (0, 0) 99 [] [.int (if (h.1 x0 10) = (-1 : Int32) then (4 : Int32) else (2 : Int32)), .ref x0] sz K h := by
    exact w5_takeNumber_J99 X hK x0 (if (h.1 x0 10) = (-1 : Int32) then (4 : Int32) else (2 : Int32)) h px0 E
  clear E
  by_cases c9 : (h.1 x0 10) = (-1 : Int32)
  · rw [if_pos c9] at hJ
    refine g_icmp_ne_f (off := 7) (tgt := 98) X (by decide +kernel) (by decide) (fun z => z c9) ?_
    refine g_iconst (n := 4) (x := (4 : Int32)) X (by decide +kernel) (by decide) ?_
    refine g_goto (off := 4) (tgt := 99) X (by decide +kernel) (by decide) ?_
    refine g_sub [] rfl ?_
    exact hJ
  · rw [if_neg c9] at hJ
    refine g_icmp_ne_t (off := 7) (tgt := 98) X (by decide +kernel) (by decide) c9 ?_
    refine g_iconst (n := 2) (x := (2 : Int32)) X (by decide +kernel) (by decide) ?_
    refine g_sub [] rfl ?_
    exact hJ
set_option maxHeartbeats 4000000 in
set_option maxRecDepth 20000 in
theorem w5_takeNumber_L5 {Γ : CT} {sp : Sp} {K : Ly} {sz n : Nat} {hf : Hp}  (X : Ok Γ sp prog_8_method_15_code Rc5 1 none 2 none sz K hf) (hK : LyOk K) (x0 : Nat)  (px0 : K x0 = some (.inl 5))  : ∀ (k : Nat)  (h : Hp), f5_takeNumber_L5 K n x0  k h = some hf → Go Γ (0, 0) 5 [(0, .ref x0)] [] sz K h := by
  intro k
  induction k with
  | zero => intro h E; cases E
  | succ k ih =>
    intro h E
    unfold f5_takeNumber_L5 at E
    refine g_aload_n (n := 0) X (by decide +kernel) 0 rfl ?_
    refine g_getI X (by decide +kernel) fl5_47 px0 ?_
    refine g_aload_n (n := 0) X (by decide +kernel) 0 rfl ?_
    refine g_getI X (by decide +kernel) fl5_40 px0 ?_
    rcases it_E E with ⟨c2, E⟩ | ⟨c2, E⟩
    · refine g_icmp_ge_t (off := 72) (tgt := 85) X (by decide +kernel) (by decide) c2 ?_
      exact w5_takeNumber_J85 X hK x0 h px0 E
    · refine g_icmp_ge_f (off := 72) (tgt := 85) X (by decide +kernel) (by decide) c2 ?_
      refine g_aload_n (n := 0) X (by decide +kernel) 0 rfl ?_
      obtain ⟨o3, o3n, qo3, po3, E⟩ := oa_E E
      refine g_getR X (by decide +kernel) fl5_36 px0 qo3 ?_
      refine g_aload_n (n := 0) X (by decide +kernel) 0 rfl ?_
      refine g_getI X (by decide +kernel) fl5_47 px0 ?_
      obtain ⟨c4, E⟩ := gd_E E
      refine g_bald X (by decide +kernel) po3 c4 ?_
      refine g_callS1 (st := []) X [.int (h.1 o3 (h.1 x0 7).toNatClampNeg)] (by decide +kernel) ml5_216 (by decide) (Nat.le_of_ble_eq_true rfl) (c5_isDigit hK (h.1 o3 (h.1 x0 7).toNatClampNeg) h ) ?_
      rcases it_E E with ⟨c5, E⟩ | ⟨c5, E⟩
      · refine g_if_eq_t (off := 57) (tgt := 85) X (by decide +kernel) (by decide) c5 ?_
        exact w5_takeNumber_J85 X hK x0 h px0 E
      · refine g_if_eq_f (off := 57) (tgt := 85) X (by decide +kernel) (by decide) c5 ?_
        refine g_aload_n (n := 0) X (by decide +kernel) 0 rfl ?_
        refine g_aload_n (n := 0) X (by decide +kernel) 0 rfl ?_
        refine g_getI X (by decide +kernel) fl5_47 px0 ?_
        refine g_aload_n (n := 0) X (by decide +kernel) 0 rfl ?_
        refine g_getI X (by decide +kernel) fl5_53 px0 ?_
        refine g_isub X (by decide +kernel) ?_
        refine g_iconst (n := 2) (x := (2 : Int32)) X (by decide +kernel) (by decide) ?_
        rcases it_E E with ⟨c6, E⟩ | ⟨c6, E⟩
        · refine g_icmp_ge_t (off := 26) (tgt := 68) X (by decide +kernel) (by decide) c6 ?_
          refine g_iconst (n := -1) (x := (-1 : Int32)) X (by decide +kernel) (by decide) ?_
          exact w5_takeNumber_J69 X hK x0 x0 (-1 : Int32) h ih px0 px0 E
        · refine g_icmp_ge_f (off := 26) (tgt := 68) X (by decide +kernel) (by decide) c6 ?_
          refine g_aload_n (n := 0) X (by decide +kernel) 0 rfl ?_
          refine g_getI X (by decide +kernel) fl5_56 px0 ?_
          refine g_bipush (n := 10) (x := (10 : Int32)) X (by decide +kernel) (by decide) ?_
          refine g_imul X (by decide +kernel) ?_
          refine g_aload_n (n := 0) X (by decide +kernel) 0 rfl ?_
          obtain ⟨o7, o7n, qo7, po7, E⟩ := oa_E E
          refine g_getR X (by decide +kernel) fl5_36 px0 qo7 ?_
          refine g_aload_n (n := 0) X (by decide +kernel) 0 rfl ?_
          refine g_getI X (by decide +kernel) fl5_47 px0 ?_
          obtain ⟨c8, E⟩ := gd_E E
          refine g_bald X (by decide +kernel) po7 c8 ?_
          refine g_iadd X (by decide +kernel) ?_
          refine g_bipush (n := 48) (x := (48 : Int32)) X (by decide +kernel) (by decide) ?_
          refine g_isub X (by decide +kernel) ?_
          refine g_goto (off := 4) (tgt := 69) X (by decide +kernel) (by decide) ?_
          exact w5_takeNumber_J69 X hK x0 x0 ((((h.1 x0 10) * (10 : Int32)) + (h.1 o7 (h.1 x0 7).toNatClampNeg)) - (48 : Int32)) h ih px0 px0 E
set_option maxHeartbeats 4000000 in
set_option maxRecDepth 20000 in
theorem c5_takeNumber {sp : Sp} {K : Ly} {sz n : Nat} (hK : LyOk K) (o : Nat) (h : Hp) (ho : K o = some (.inl 5)) {hf : Hp} (E : f5_takeNumber K n o h = some hf) : Con sp y5_takeNumber prog_8_method_15_code 1 none 2 0 0 [.ref o] sz K h none sz K hf := by
  refine Con.of (by decide) (Nat.le_of_ble_eq_true rfl) (fun Γ X _ => ?_)
  show Go Γ (0, 0) 0 [(0, .ref o)] [] sz K h
  unfold f5_takeNumber at E
  refine g_aload_n (n := 0) X (by decide +kernel) 0 rfl ?_
  refine g_iconst (n := 0) (x := (0 : Int32)) X (by decide +kernel) (by decide) ?_
  obtain ⟨h1, eh1, E⟩ := lt_E E
  refine g_putI X (by decide +kernel) fp5_56 ho eh1 ?_
  exact w5_takeNumber_L5 X hK o ho n h1 E
-- Reader.step
def f5_step_J39 (K : Ly) (n : Nat) (r0 : Hp → Option Hp) (x0 : Nat) (h : Hp) : Option Hp :=
    lt (sI h x0 7 ((h.1 x0 7) + (1 : Int32))) fun h24 =>
    r0  h24
def f5_step_J143 (K : Ly) (n : Nat)  (x0 : Nat) (s0 : Nat) (s1 : Int32) (h : Hp) : Option Hp :=
    lt (sI h s0 8 s1) fun h25 =>
    lt (sI h25 x0 7 ((h25.1 x0 7) + (1 : Int32))) fun h26 =>
    some h26
def f5_step_J52 (K : Ly) (n : Nat)  (x0 : Nat) (h : Hp) : Option Hp :=
    lt (sI h x0 9 (h.1 x0 7)) fun h8 =>
    if (h8.1 x0 7) < (h8.1 x0 5) then (
    oa (h8.2.2 x0 4) K 1 fun o10 o10n =>
    gd (inb (h8.1 x0 7) o10n) <|
    if (f5_isLetter (h8.1 o10 (h8.1 x0 7).toNatClampNeg)) = 0 then (
    oa (h8.2.2 x0 4) K 1 fun o13 o13n =>
    gd (inb (h8.1 x0 7) o13n) <|
    if (f5_isDigit (h8.1 o13 (h8.1 x0 7).toNatClampNeg)) = 0 then (
    oa (h8.2.2 x0 4) K 1 fun o16 o16n =>
    gd (inb (h8.1 x0 7) o16n) <|
    f5_step_J143 K n x0 x0 (if (h8.1 o16 (h8.1 x0 7).toNatClampNeg) = (59 : Int32) then (3 : Int32) else (4 : Int32)) h8)
    else (
    bp (f5_takeNumber K n x0 h8) fun h20 =>
    some h20))
    else (
    bp (f5_takeWord K n x0 h8) fun h22 =>
    some h22))
    else (
    lt (sI h8 x0 8 (0 : Int32)) fun h23 =>
    some h23)
def f5_step_L0 (K : Ly) (n : Nat) (x0 : Nat)   : Nat → Hp → Option Hp
  | 0, _ => none
  | k + 1, h =>
    if (h.1 x0 5) ≤ (h.1 x0 7) then (
    f5_step_J52 K n x0 h)
    else (
    oa (h.2.2 x0 4) K 1 fun o2 o2n =>
    gd (inb (h.1 x0 7) o2n) <|
    if (h.1 o2 (h.1 x0 7).toNatClampNeg) = (10 : Int32) then (
    f5_step_J39 K n (f5_step_L0 K n x0  k) x0 h)
    else (
    oa (h.2.2 x0 4) K 1 fun o5 o5n =>
    gd (inb (h.1 x0 7) o5n) <|
    if (h.1 o5 (h.1 x0 7).toNatClampNeg) = (32 : Int32) then (
    f5_step_J39 K n (f5_step_L0 K n x0  k) x0 h)
    else (
    f5_step_J52 K n x0 h)))
def f5_step (K : Ly) (n : Nat) (o : Nat) (h : Hp) : Option Hp :=
    f5_step_L0 K n o n h
set_option maxHeartbeats 4000000 in
set_option maxRecDepth 20000 in
theorem w5_step_J39 {Γ : CT} {sp : Sp} {K : Ly} {sz n : Nat} {hf : Hp}  {r0 : Hp → Option Hp}  (X : Ok Γ sp prog_8_method_13_code Rc5 1 none 3 none sz K hf) (hK : LyOk K) (x0 : Nat) (h : Hp) (hr0 : ∀ (h : Hp), r0  h = some hf → Go Γ (0, 0) 0 [(0, .ref x0)] [] sz K h) (px0 : K x0 = some (.inl 5)) (E : f5_step_J39 K n r0 x0 h = some hf) : Go Γ (0, 0) 39 [(0, .ref x0)] [] sz K h := by
  unfold f5_step_J39 at E
  refine g_aload_n (n := 0) X (by decide +kernel) 0 rfl ?_
  refine g_dup X (by decide +kernel) rfl ?_
  refine g_getI X (by decide +kernel) fl5_47 px0 ?_
  refine g_iconst (n := 1) (x := (1 : Int32)) X (by decide +kernel) (by decide) ?_
  refine g_iadd X (by decide +kernel) ?_
  obtain ⟨h24, eh24, E⟩ := lt_E E
  refine g_putI X (by decide +kernel) fp5_47 px0 eh24 ?_
  refine g_goto (off := -49) (tgt := 0) X (by decide +kernel) (by decide) ?_
  exact hr0 h24  E
set_option maxHeartbeats 4000000 in
set_option maxRecDepth 20000 in
theorem w5_step_J143 {Γ : CT} {sp : Sp} {K : Ly} {sz n : Nat} {hf : Hp}   (X : Ok Γ sp prog_8_method_13_code Rc5 1 none 3 none sz K hf) (hK : LyOk K) (x0 : Nat) (s0 : Nat) (s1 : Int32) (h : Hp)  (px0 : K x0 = some (.inl 5)) (ps0 : K s0 = some (.inl 5)) (E : f5_step_J143 K n x0 s0 s1 h = some hf) : Go Γ (0, 0) 143 [(0, .ref x0)] [.int s1, .ref s0] sz K h := by
  unfold f5_step_J143 at E
  obtain ⟨h25, eh25, E⟩ := lt_E E
  refine g_putI X (by decide +kernel) fp5_50 ps0 eh25 ?_
  refine g_aload_n (n := 0) X (by decide +kernel) 0 rfl ?_
  refine g_dup X (by decide +kernel) rfl ?_
  refine g_getI X (by decide +kernel) fl5_47 px0 ?_
  refine g_iconst (n := 1) (x := (1 : Int32)) X (by decide +kernel) (by decide) ?_
  refine g_iadd X (by decide +kernel) ?_
  obtain ⟨h26, eh26, E⟩ := lt_E E
  refine g_putI X (by decide +kernel) fp5_47 px0 eh26 ?_
  obtain rfl := Option.some.inj E
  exact g_return X (by decide +kernel)
set_option maxHeartbeats 4000000 in
set_option maxRecDepth 20000 in
theorem w5_step_J52 {Γ : CT} {sp : Sp} {K : Ly} {sz n : Nat} {hf : Hp}   (X : Ok Γ sp prog_8_method_13_code Rc5 1 none 3 none sz K hf) (hK : LyOk K) (x0 : Nat) (h : Hp)  (px0 : K x0 = some (.inl 5)) (E : f5_step_J52 K n x0 h = some hf) : Go Γ (0, 0) 52 [(0, .ref x0)] [] sz K h := by
  unfold f5_step_J52 at E
  refine g_aload_n (n := 0) X (by decide +kernel) 0 rfl ?_
  refine g_aload_n (n := 0) X (by decide +kernel) 0 rfl ?_
  refine g_getI X (by decide +kernel) fl5_47 px0 ?_
  obtain ⟨h8, eh8, E⟩ := lt_E E
  refine g_putI X (by decide +kernel) fp5_53 px0 eh8 ?_
  refine g_aload_n (n := 0) X (by decide +kernel) 0 rfl ?_
  refine g_getI X (by decide +kernel) fl5_47 px0 ?_
  refine g_aload_n (n := 0) X (by decide +kernel) 0 rfl ?_
  refine g_getI X (by decide +kernel) fl5_40 px0 ?_
  rcases it_E E with ⟨c9, E⟩ | ⟨c9, E⟩
  · refine g_icmp_lt_t (off := 11) (tgt := 79) X (by decide +kernel) (by decide) c9 ?_
    refine g_aload_n (n := 0) X (by decide +kernel) 0 rfl ?_
    obtain ⟨o10, o10n, qo10, po10, E⟩ := oa_E E
    refine g_getR X (by decide +kernel) fl5_36 px0 qo10 ?_
    refine g_aload_n (n := 0) X (by decide +kernel) 0 rfl ?_
    refine g_getI X (by decide +kernel) fl5_47 px0 ?_
    obtain ⟨c11, E⟩ := gd_E E
    refine g_bald X (by decide +kernel) po10 c11 ?_
    refine g_callS1 (st := []) X [.int (h8.1 o10 (h8.1 x0 7).toNatClampNeg)] (by decide +kernel) ml5_210 (by decide) (Nat.le_of_ble_eq_true rfl) (c5_isLetter hK (h8.1 o10 (h8.1 x0 7).toNatClampNeg) h8 ) ?_
    rcases it_E E with ⟨c12, E⟩ | ⟨c12, E⟩
    · refine g_if_eq_t (off := 10) (tgt := 101) X (by decide +kernel) (by decide) c12 ?_
      refine g_aload_n (n := 0) X (by decide +kernel) 0 rfl ?_
      obtain ⟨o13, o13n, qo13, po13, E⟩ := oa_E E
      refine g_getR X (by decide +kernel) fl5_36 px0 qo13 ?_
      refine g_aload_n (n := 0) X (by decide +kernel) 0 rfl ?_
      refine g_getI X (by decide +kernel) fl5_47 px0 ?_
      obtain ⟨c14, E⟩ := gd_E E
      refine g_bald X (by decide +kernel) po13 c14 ?_
      refine g_callS1 (st := []) X [.int (h8.1 o13 (h8.1 x0 7).toNatClampNeg)] (by decide +kernel) ml5_216 (by decide) (Nat.le_of_ble_eq_true rfl) (c5_isDigit hK (h8.1 o13 (h8.1 x0 7).toNatClampNeg) h8 ) ?_
      rcases it_E E with ⟨c15, E⟩ | ⟨c15, E⟩
      · refine g_if_eq_t (off := 10) (tgt := 123) X (by decide +kernel) (by decide) c15 ?_
        refine g_aload_n (n := 0) X (by decide +kernel) 0 rfl ?_
        refine g_aload_n (n := 0) X (by decide +kernel) 0 rfl ?_
        obtain ⟨o16, o16n, qo16, po16, E⟩ := oa_E E
        refine g_getR X (by decide +kernel) fl5_36 px0 qo16 ?_
        refine g_aload_n (n := 0) X (by decide +kernel) 0 rfl ?_
        refine g_getI X (by decide +kernel) fl5_47 px0 ?_
        obtain ⟨c17, E⟩ := gd_E E
        refine g_bald X (by decide +kernel) po16 c17 ?_
        refine g_bipush (n := 59) (x := (59 : Int32)) X (by decide +kernel) (by decide) ?_
        have hJ : Go Γ (0, 0) 143 [(0, .ref x0)] [.int (if (h8.1 o16 (h8.1 x0 7).toNatClampNeg) = (59 : Int32) then (3 : Int32) else (4 : Int32)), .ref x0] sz K h8 := by
          exact w5_step_J143 X hK x0 x0 (if (h8.1 o16 (h8.1 x0 7).toNatClampNeg) = (59 : Int32) then (3 : Int32) else (4 : Int32)) h8 px0 px0 E
        clear E
        by_cases c18 : (h8.1 o16 (h8.1 x0 7).toNatClampNeg) = (59 : Int32)
        · rw [if_pos c18] at hJ
          refine g_icmp_ne_f (off := 7) (tgt := 142) X (by decide +kernel) (by decide) (fun z => z c18) ?_
          refine g_iconst (n := 3) (x := (3 : Int32)) X (by decide +kernel) (by decide) ?_
          refine g_goto (off := 4) (tgt := 143) X (by decide +kernel) (by decide) ?_
          exact hJ
        · rw [if_neg c18] at hJ
          refine g_icmp_ne_t (off := 7) (tgt := 142) X (by decide +kernel) (by decide) c18 ?_
          refine g_iconst (n := 4) (x := (4 : Int32)) X (by decide +kernel) (by decide) ?_
          exact hJ
      · refine g_if_eq_f (off := 10) (tgt := 123) X (by decide +kernel) (by decide) c15 ?_
        refine g_aload_n (n := 0) X (by decide +kernel) 0 rfl ?_
        obtain ⟨h20, e19, E⟩ := bp_E E
        refine g_callV0 (st := []) X [] (by decide +kernel) ml5_219 px0 rfl rfl (by decide) (Nat.le_of_ble_eq_true rfl) (c5_takeNumber hK x0 h8 px0 e19) ?_
        refine g_goto (off := 36) (tgt := 156) X (by decide +kernel) (by decide) ?_
        obtain rfl := Option.some.inj E
        exact g_return X (by decide +kernel)
    · refine g_if_eq_f (off := 10) (tgt := 101) X (by decide +kernel) (by decide) c12 ?_
      refine g_aload_n (n := 0) X (by decide +kernel) 0 rfl ?_
      obtain ⟨h22, e21, E⟩ := bp_E E
      refine g_callV0 (st := []) X [] (by decide +kernel) ml5_213 px0 rfl rfl (by decide) (Nat.le_of_ble_eq_true rfl) (c5_takeWord hK x0 h8 px0 e21) ?_
      refine g_goto (off := 58) (tgt := 156) X (by decide +kernel) (by decide) ?_
      obtain rfl := Option.some.inj E
      exact g_return X (by decide +kernel)
  · refine g_icmp_lt_f (off := 11) (tgt := 79) X (by decide +kernel) (by decide) c9 ?_
    refine g_aload_n (n := 0) X (by decide +kernel) 0 rfl ?_
    refine g_iconst (n := 0) (x := (0 : Int32)) X (by decide +kernel) (by decide) ?_
    obtain ⟨h23, eh23, E⟩ := lt_E E
    refine g_putI X (by decide +kernel) fp5_50 px0 eh23 ?_
    refine g_goto (off := 80) (tgt := 156) X (by decide +kernel) (by decide) ?_
    obtain rfl := Option.some.inj E
    exact g_return X (by decide +kernel)
set_option maxHeartbeats 4000000 in
set_option maxRecDepth 20000 in
theorem w5_step_L0 {Γ : CT} {sp : Sp} {K : Ly} {sz n : Nat} {hf : Hp}  (X : Ok Γ sp prog_8_method_13_code Rc5 1 none 3 none sz K hf) (hK : LyOk K) (x0 : Nat)  (px0 : K x0 = some (.inl 5))  : ∀ (k : Nat)  (h : Hp), f5_step_L0 K n x0  k h = some hf → Go Γ (0, 0) 0 [(0, .ref x0)] [] sz K h := by
  intro k
  induction k with
  | zero => intro h E; cases E
  | succ k ih =>
    intro h E
    unfold f5_step_L0 at E
    refine g_aload_n (n := 0) X (by decide +kernel) 0 rfl ?_
    refine g_getI X (by decide +kernel) fl5_47 px0 ?_
    refine g_aload_n (n := 0) X (by decide +kernel) 0 rfl ?_
    refine g_getI X (by decide +kernel) fl5_40 px0 ?_
    rcases it_E E with ⟨c1, E⟩ | ⟨c1, E⟩
    · refine g_icmp_ge_t (off := 44) (tgt := 52) X (by decide +kernel) (by decide) c1 ?_
      exact w5_step_J52 X hK x0 h px0 E
    · refine g_icmp_ge_f (off := 44) (tgt := 52) X (by decide +kernel) (by decide) c1 ?_
      refine g_aload_n (n := 0) X (by decide +kernel) 0 rfl ?_
      obtain ⟨o2, o2n, qo2, po2, E⟩ := oa_E E
      refine g_getR X (by decide +kernel) fl5_36 px0 qo2 ?_
      refine g_aload_n (n := 0) X (by decide +kernel) 0 rfl ?_
      refine g_getI X (by decide +kernel) fl5_47 px0 ?_
      obtain ⟨c3, E⟩ := gd_E E
      refine g_bald X (by decide +kernel) po2 c3 ?_
      refine g_bipush (n := 10) (x := (10 : Int32)) X (by decide +kernel) (by decide) ?_
      rcases it_E E with ⟨c4, E⟩ | ⟨c4, E⟩
      · refine g_icmp_eq_t (off := 17) (tgt := 39) X (by decide +kernel) (by decide) c4 ?_
        exact w5_step_J39 X hK x0 h ih px0 E
      · refine g_icmp_eq_f (off := 17) (tgt := 39) X (by decide +kernel) (by decide) c4 ?_
        refine g_aload_n (n := 0) X (by decide +kernel) 0 rfl ?_
        obtain ⟨o5, o5n, qo5, po5, E⟩ := oa_E E
        refine g_getR X (by decide +kernel) fl5_36 px0 qo5 ?_
        refine g_aload_n (n := 0) X (by decide +kernel) 0 rfl ?_
        refine g_getI X (by decide +kernel) fl5_47 px0 ?_
        obtain ⟨c6, E⟩ := gd_E E
        refine g_bald X (by decide +kernel) po5 c6 ?_
        refine g_bipush (n := 32) (x := (32 : Int32)) X (by decide +kernel) (by decide) ?_
        rcases it_E E with ⟨c7, E⟩ | ⟨c7, E⟩
        · refine g_icmp_ne_f (off := 16) (tgt := 52) X (by decide +kernel) (by decide) (fun z => z c7) ?_
          exact w5_step_J39 X hK x0 h ih px0 E
        · refine g_icmp_ne_t (off := 16) (tgt := 52) X (by decide +kernel) (by decide) c7 ?_
          exact w5_step_J52 X hK x0 h px0 E
set_option maxHeartbeats 4000000 in
set_option maxRecDepth 20000 in
theorem c5_step {sp : Sp} {K : Ly} {sz n : Nat} (hK : LyOk K) (o : Nat) (h : Hp) (ho : K o = some (.inl 5)) {hf : Hp} (E : f5_step K n o h = some hf) : Con sp y5_step prog_8_method_13_code 1 none 3 0 0 [.ref o] sz K h none sz K hf := by
  refine Con.of (by decide) (Nat.le_of_ble_eq_true rfl) (fun Γ X _ => ?_)
  show Go Γ (0, 0) 0 [(0, .ref o)] [] sz K h
  unfold f5_step at E
  exact w5_step_L0 X hK o ho n h E
-- Reader.refuse
def f5_refuse (K : Ly) (n : Nat) (o : Nat) (h : Hp) : Option Hp :=
    lt (sI h o 12 (1 : Int32)) fun h1 =>
    lt (sI h1 o 13 (h1.1 o 9)) fun h2 =>
    some h2
set_option maxHeartbeats 4000000 in
set_option maxRecDepth 20000 in
theorem c5_refuse {sp : Sp} {K : Ly} {sz n : Nat} (hK : LyOk K) (o : Nat) (h : Hp) (ho : K o = some (.inl 5)) {hf : Hp} (E : f5_refuse K n o h = some hf) : Con sp y5_refuse prog_8_method_5_code 1 none 1 0 0 [.ref o] sz K h none sz K hf := by
  refine Con.of (by decide) (Nat.le_of_ble_eq_true rfl) (fun Γ X _ => ?_)
  show Go Γ (0, 0) 0 [(0, .ref o)] [] sz K h
  unfold f5_refuse at E
  refine g_aload_n (n := 0) X (by decide +kernel) 0 rfl ?_
  refine g_iconst (n := 1) (x := (1 : Int32)) X (by decide +kernel) (by decide) ?_
  obtain ⟨h1, eh1, E⟩ := lt_E E
  refine g_putI X (by decide +kernel) fp5_62 ho eh1 ?_
  refine g_aload_n (n := 0) X (by decide +kernel) 0 rfl ?_
  refine g_aload_n (n := 0) X (by decide +kernel) 0 rfl ?_
  refine g_getI X (by decide +kernel) fl5_53 ho ?_
  obtain ⟨h2, eh2, E⟩ := lt_E E
  refine g_putI X (by decide +kernel) fp5_65 ho eh2 ?_
  obtain rfl := Option.some.inj E
  exact g_return X (by decide +kernel)
-- Reader.isOneTooMany
def f5_isOneTooMany (o : Nat) (a1 : Int32) (h : Hp) : Int32 :=
    if (h.1 o 6) = (1 : Int32) then (
    (if (h.1 (o + 14) 0) < (40 : Int32) then (0 : Int32) else (1 : Int32)))
    else (
    if (h.1 o 6) = (2 : Int32) then (
    (if (h.1 (o + 18) 0) < (8 : Int32) then (0 : Int32) else (1 : Int32)))
    else (
    (if a1 = (4 : Int32) then (if (12 : Int32) ≤ (h.1 (o + 1) 3) then (1 : Int32) else (if a1 = (5 : Int32) then (if (h.1 (o + 1) 4) < (6 : Int32) then (0 : Int32) else (1 : Int32)) else (0 : Int32))) else (if a1 = (5 : Int32) then (if (h.1 (o + 1) 4) < (6 : Int32) then (0 : Int32) else (1 : Int32)) else (0 : Int32)))))
set_option maxHeartbeats 4000000 in
set_option maxRecDepth 20000 in
theorem c5_isOneTooMany {sp : Sp} {K : Ly} {sz : Nat} (hK : LyOk K) (o : Nat) (a1 : Int32) (h : Hp) (ho : K o = some (.inl 5)) : Con sp y5_isOneTooMany prog_8_method_6_code 2 (some (.boolean)) 1 0 0 [.ref o, .int a1] sz K h (some (.int (f5_isOneTooMany o a1 h))) sz K h := by
  obtain ⟨v, E⟩ : ∃ v, f5_isOneTooMany o a1 h = v := ⟨_, rfl⟩
  rw [E]
  refine Con.of (by decide) (Nat.le_of_ble_eq_true rfl) (fun Γ X _ => ?_)
  show Go Γ (0, 0) 0 [(0, .ref o), (1, .int a1)] [] sz K h
  unfold f5_isOneTooMany at E
  refine g_aload_n (n := 0) X (by decide +kernel) 0 rfl ?_
  refine g_getI X (by decide +kernel) fl5_44 ho ?_
  refine g_iconst (n := 1) (x := (1 : Int32)) X (by decide +kernel) (by decide) ?_
  rcases it_E E with ⟨c1, E⟩ | ⟨c1, E⟩
  · refine g_icmp_ne_f (off := 21) (tgt := 26) X (by decide +kernel) (by decide) (fun z => z c1) ?_
    refine g_aload_n (n := 0) X (by decide +kernel) 0 rfl ?_
    refine g_getS X (by decide +kernel) fl5_21 ho ?_
    refine g_getI X (by decide +kernel) fl5_71 (ly hK ho fl5_21 rfl) ?_
    refine g_bipush (n := 40) (x := (40 : Int32)) X (by decide +kernel) (by decide) ?_
    have hJ : Go Γ (0, 0) 25 [] [.int (if (h.1 (o + 14) 0) < (40 : Int32) then (0 : Int32) else (1 : Int32))] sz K h := by
      subst E
      exact g_zreturn X (by decide +kernel) (by (repeat' split) <;> rfl)
    clear E
    by_cases c2 : (h.1 (o + 14) 0) < (40 : Int32)
    · rw [if_pos c2] at hJ
      refine g_icmp_lt_t (off := 7) (tgt := 24) X (by decide +kernel) (by decide) c2 ?_
      refine g_iconst (n := 0) (x := (0 : Int32)) X (by decide +kernel) (by decide) ?_
      refine g_sub [] rfl ?_
      exact hJ
    · rw [if_neg c2] at hJ
      refine g_icmp_lt_f (off := 7) (tgt := 24) X (by decide +kernel) (by decide) c2 ?_
      refine g_iconst (n := 1) (x := (1 : Int32)) X (by decide +kernel) (by decide) ?_
      refine g_goto (off := 4) (tgt := 25) X (by decide +kernel) (by decide) ?_
      refine g_sub [] rfl ?_
      exact hJ
  · refine g_icmp_ne_t (off := 21) (tgt := 26) X (by decide +kernel) (by decide) c1 ?_
    refine g_aload_n (n := 0) X (by decide +kernel) 0 rfl ?_
    refine g_getI X (by decide +kernel) fl5_44 ho ?_
    refine g_iconst (n := 2) (x := (2 : Int32)) X (by decide +kernel) (by decide) ?_
    rcases it_E E with ⟨c3, E⟩ | ⟨c3, E⟩
    · refine g_icmp_ne_f (off := 21) (tgt := 52) X (by decide +kernel) (by decide) (fun z => z c3) ?_
      refine g_aload_n (n := 0) X (by decide +kernel) 0 rfl ?_
      refine g_getS X (by decide +kernel) fl5_28 ho ?_
      refine g_getI X (by decide +kernel) fl5_74 (ly hK ho fl5_28 rfl) ?_
      refine g_bipush (n := 8) (x := (8 : Int32)) X (by decide +kernel) (by decide) ?_
      have hJ : Go Γ (0, 0) 51 [] [.int (if (h.1 (o + 18) 0) < (8 : Int32) then (0 : Int32) else (1 : Int32))] sz K h := by
        subst E
        exact g_zreturn X (by decide +kernel) (by (repeat' split) <;> rfl)
      clear E
      by_cases c4 : (h.1 (o + 18) 0) < (8 : Int32)
      · rw [if_pos c4] at hJ
        refine g_icmp_lt_t (off := 7) (tgt := 50) X (by decide +kernel) (by decide) c4 ?_
        refine g_iconst (n := 0) (x := (0 : Int32)) X (by decide +kernel) (by decide) ?_
        refine g_sub [] rfl ?_
        exact hJ
      · rw [if_neg c4] at hJ
        refine g_icmp_lt_f (off := 7) (tgt := 50) X (by decide +kernel) (by decide) c4 ?_
        refine g_iconst (n := 1) (x := (1 : Int32)) X (by decide +kernel) (by decide) ?_
        refine g_goto (off := 4) (tgt := 51) X (by decide +kernel) (by decide) ?_
        refine g_sub [] rfl ?_
        exact hJ
    · refine g_icmp_ne_t (off := 21) (tgt := 52) X (by decide +kernel) (by decide) c3 ?_
      refine g_iload_n (n := 1) X (by decide +kernel) 1 rfl ?_
      refine g_iconst (n := 4) (x := (4 : Int32)) X (by decide +kernel) (by decide) ?_
      have hJ : Go Γ (0, 0) 91 [] [.int (if a1 = (4 : Int32) then (if (12 : Int32) ≤ (h.1 (o + 1) 3) then (1 : Int32) else (if a1 = (5 : Int32) then (if (h.1 (o + 1) 4) < (6 : Int32) then (0 : Int32) else (1 : Int32)) else (0 : Int32))) else (if a1 = (5 : Int32) then (if (h.1 (o + 1) 4) < (6 : Int32) then (0 : Int32) else (1 : Int32)) else (0 : Int32)))] sz K h := by
        subst E
        exact g_zreturn X (by decide +kernel) (by (repeat' split) <;> rfl)
      clear E
      by_cases c5 : a1 = (4 : Int32)
      · rw [if_pos c5] at hJ
        refine g_icmp_ne_f (off := 15) (tgt := 69) X (by decide +kernel) (by decide) (fun z => z c5) ?_
        refine g_aload_n (n := 0) X (by decide +kernel) 0 rfl ?_
        refine g_getS X (by decide +kernel) fl5_12 ho ?_
        refine g_getI X (by decide +kernel) fl5_121 (ly hK ho fl5_12 rfl) ?_
        refine g_bipush (n := 12) (x := (12 : Int32)) X (by decide +kernel) (by decide) ?_
        by_cases c6 : (12 : Int32) ≤ (h.1 (o + 1) 3)
        · rw [if_pos c6] at hJ
          refine g_icmp_ge_t (off := 20) (tgt := 86) X (by decide +kernel) (by decide) c6 ?_
          refine g_iconst (n := 1) (x := (1 : Int32)) X (by decide +kernel) (by decide) ?_
          refine g_goto (off := 4) (tgt := 91) X (by decide +kernel) (by decide) ?_
          refine g_sub [] rfl ?_
          exact hJ
        · rw [if_neg c6] at hJ
          refine g_icmp_ge_f (off := 20) (tgt := 86) X (by decide +kernel) (by decide) c6 ?_
          refine g_iload_n (n := 1) X (by decide +kernel) 1 rfl ?_
          refine g_iconst (n := 5) (x := (5 : Int32)) X (by decide +kernel) (by decide) ?_
          by_cases c7 : a1 = (5 : Int32)
          · rw [if_pos c7] at hJ
            refine g_icmp_ne_f (off := 19) (tgt := 90) X (by decide +kernel) (by decide) (fun z => z c7) ?_
            refine g_aload_n (n := 0) X (by decide +kernel) 0 rfl ?_
            refine g_getS X (by decide +kernel) fl5_12 ho ?_
            refine g_getI X (by decide +kernel) fl5_124 (ly hK ho fl5_12 rfl) ?_
            refine g_bipush (n := 6) (x := (6 : Int32)) X (by decide +kernel) (by decide) ?_
            by_cases c8 : (h.1 (o + 1) 4) < (6 : Int32)
            · rw [if_pos c8] at hJ
              refine g_icmp_lt_t (off := 7) (tgt := 90) X (by decide +kernel) (by decide) c8 ?_
              refine g_iconst (n := 0) (x := (0 : Int32)) X (by decide +kernel) (by decide) ?_
              refine g_sub [] rfl ?_
              exact hJ
            · rw [if_neg c8] at hJ
              refine g_icmp_lt_f (off := 7) (tgt := 90) X (by decide +kernel) (by decide) c8 ?_
              refine g_iconst (n := 1) (x := (1 : Int32)) X (by decide +kernel) (by decide) ?_
              refine g_goto (off := 4) (tgt := 91) X (by decide +kernel) (by decide) ?_
              refine g_sub [] rfl ?_
              exact hJ
          · rw [if_neg c7] at hJ
            refine g_icmp_ne_t (off := 19) (tgt := 90) X (by decide +kernel) (by decide) c7 ?_
            refine g_iconst (n := 0) (x := (0 : Int32)) X (by decide +kernel) (by decide) ?_
            refine g_sub [] rfl ?_
            exact hJ
      · rw [if_neg c5] at hJ
        refine g_icmp_ne_t (off := 15) (tgt := 69) X (by decide +kernel) (by decide) c5 ?_
        refine g_iload_n (n := 1) X (by decide +kernel) 1 rfl ?_
        refine g_iconst (n := 5) (x := (5 : Int32)) X (by decide +kernel) (by decide) ?_
        by_cases c9 : a1 = (5 : Int32)
        · rw [if_pos c9] at hJ
          refine g_icmp_ne_f (off := 19) (tgt := 90) X (by decide +kernel) (by decide) (fun z => z c9) ?_
          refine g_aload_n (n := 0) X (by decide +kernel) 0 rfl ?_
          refine g_getS X (by decide +kernel) fl5_12 ho ?_
          refine g_getI X (by decide +kernel) fl5_124 (ly hK ho fl5_12 rfl) ?_
          refine g_bipush (n := 6) (x := (6 : Int32)) X (by decide +kernel) (by decide) ?_
          by_cases c10 : (h.1 (o + 1) 4) < (6 : Int32)
          · rw [if_pos c10] at hJ
            refine g_icmp_lt_t (off := 7) (tgt := 90) X (by decide +kernel) (by decide) c10 ?_
            refine g_iconst (n := 0) (x := (0 : Int32)) X (by decide +kernel) (by decide) ?_
            refine g_sub [] rfl ?_
            exact hJ
          · rw [if_neg c10] at hJ
            refine g_icmp_lt_f (off := 7) (tgt := 90) X (by decide +kernel) (by decide) c10 ?_
            refine g_iconst (n := 1) (x := (1 : Int32)) X (by decide +kernel) (by decide) ?_
            refine g_goto (off := 4) (tgt := 91) X (by decide +kernel) (by decide) ?_
            refine g_sub [] rfl ?_
            exact hJ
        · rw [if_neg c9] at hJ
          refine g_icmp_ne_t (off := 19) (tgt := 90) X (by decide +kernel) (by decide) c9 ?_
          refine g_iconst (n := 0) (x := (0 : Int32)) X (by decide +kernel) (by decide) ?_
          refine g_sub [] rfl ?_
          exact hJ
-- Reader.mark
def f5_mark (K : Ly) (n : Nat) (o : Nat) (a1 : Int32) (a2 : Int32) (h : Hp) : Option Hp :=
    if (h.1 o 12) = 0 then (
    lt (sI h o 12 a1) fun h2 =>
    lt (sI h2 o 13 a2) fun h3 =>
    some h3)
    else (
    some h)
set_option maxHeartbeats 4000000 in
set_option maxRecDepth 20000 in
theorem c5_mark {sp : Sp} {K : Ly} {sz n : Nat} (hK : LyOk K) (o : Nat) (a1 : Int32) (a2 : Int32) (h : Hp) (ho : K o = some (.inl 5)) {hf : Hp} (E : f5_mark K n o a1 a2 h = some hf) : Con sp y5_mark prog_8_method_4_code 3 none 1 0 0 [.ref o, .int a1, .int a2] sz K h none sz K hf := by
  refine Con.of (by decide) (Nat.le_of_ble_eq_true rfl) (fun Γ X _ => ?_)
  show Go Γ (0, 0) 0 [(0, .ref o), (1, .int a1), (2, .int a2)] [] sz K h
  unfold f5_mark at E
  refine g_aload_n (n := 0) X (by decide +kernel) 0 rfl ?_
  refine g_getI X (by decide +kernel) fl5_62 ho ?_
  rcases it_E E with ⟨c1, E⟩ | ⟨c1, E⟩
  · refine g_if_ne_f (off := 13) (tgt := 17) X (by decide +kernel) (by decide) (fun z => z c1) ?_
    refine g_aload_n (n := 0) X (by decide +kernel) 0 rfl ?_
    refine g_iload_n (n := 1) X (by decide +kernel) 1 rfl ?_
    obtain ⟨h2, eh2, E⟩ := lt_E E
    refine g_putI X (by decide +kernel) fp5_62 ho eh2 ?_
    refine g_aload_n (n := 0) X (by decide +kernel) 0 rfl ?_
    refine g_iload_n (n := 2) X (by decide +kernel) 2 rfl ?_
    obtain ⟨h3, eh3, E⟩ := lt_E E
    refine g_putI X (by decide +kernel) fp5_65 ho eh3 ?_
    obtain rfl := Option.some.inj E
    exact g_return X (by decide +kernel)
  · refine g_if_ne_t (off := 13) (tgt := 17) X (by decide +kernel) (by decide) c1 ?_
    obtain rfl := Option.some.inj E
    exact g_return X (by decide +kernel)
-- Reader.canBe
def f5_canBe_J273 (K : Ly) (n : Nat)  (x0 : Nat) (h : Hp) : Option (Int32 × Hp) :=
    some ((if (h.1 x0 10) = (-1 : Int32) then (0 : Int32) else (1 : Int32)), h)
def f5_canBe (K : Ly) (n : Nat) (o : Nat) (a1 : Int32) (h : Hp) : Option (Int32 × Hp) :=
    if a1 = (99 : Int32) then (
    some ((if (h.1 o 10) < (1 : Int32) then (0 : Int32) else (if (6 : Int32) < (h.1 o 10) then (0 : Int32) else (1 : Int32))), h))
    else if a1 = (100 : Int32) then (
    some ((if (h.1 o 10) < (1 : Int32) then (0 : Int32) else (if (9 : Int32) < (h.1 o 10) then (0 : Int32) else (1 : Int32))), h))
    else if a1 = (101 : Int32) then (
    f5_canBe_J273 K n o h)
    else if a1 = (102 : Int32) then (
    f5_canBe_J273 K n o h)
    else if a1 = (103 : Int32) then (
    f5_canBe_J273 K n o h)
    else if a1 = (104 : Int32) then (
    f5_canBe_J273 K n o h)
    else if a1 = (105 : Int32) then (
    f5_canBe_J273 K n o h)
    else if a1 = (106 : Int32) then (
    f5_canBe_J273 K n o h)
    else if a1 = (107 : Int32) then (
    some ((if (40 : Int32) ≤ (h.1 o 10) then (0 : Int32) else (1 : Int32)), h))
    else if a1 = (108 : Int32) then (
    some ((if (h.1 o 10) < (1 : Int32) then (0 : Int32) else (1 : Int32)), h))
    else if a1 = (109 : Int32) then (
    lt (sI h o 11 (jmax (h.1 o 11) (h.1 o 10))) fun h18 =>
    if (6 : Int32) ≤ (h18.1 o 10) then (
    some ((0 : Int32), h18))
    else (
    some ((if (h18.1 o 10) = (h18.1 (o + 21) (0 : Int32).toNatClampNeg) then (0 : Int32) else (1 : Int32)), h18)))
    else if a1 = (110 : Int32) then (
    lt (sI h o 11 (jmax (h.1 o 11) (h.1 o 10))) fun h22 =>
    some ((if (6 : Int32) ≤ (h22.1 o 10) then (0 : Int32) else (1 : Int32)), h22))
    else if a1 = (111 : Int32) then (
    f5_canBe_J273 K n o h)
    else if a1 = (112 : Int32) then (
    f5_canBe_J273 K n o h)
    else if a1 = (113 : Int32) then (
    f5_canBe_J273 K n o h)
    else if a1 = (114 : Int32) then (
    some ((if (4 : Int32) < (h.1 o 10) then (0 : Int32) else (1 : Int32)), h))
    else if a1 = (115 : Int32) then (
    f5_canBe_J273 K n o h)
    else if a1 = (116 : Int32) then (
    some ((if (h.1 o 10) < (1 : Int32) then (0 : Int32) else (if (20 : Int32) < (h.1 o 10) then (0 : Int32) else (1 : Int32))), h))
    else (
    f5_canBe_J273 K n o h)
set_option maxHeartbeats 4000000 in
set_option maxRecDepth 20000 in
theorem w5_canBe_J273 {Γ : CT} {sp : Sp} {K : Ly} {sz n : Nat} {v : Int32} {hf : Hp}   (X : Ok Γ sp prog_8_method_7_code Rc5 2 (some (.boolean)) 2 (some (.int v)) sz K hf) (hK : LyOk K) (x0 : Nat) (h : Hp)  (px0 : K x0 = some (.inl 5)) (E : f5_canBe_J273 K n x0 h = some (v, hf)) : Go Γ (0, 0) 273 [(0, .ref x0)] [] sz K h := by
  unfold f5_canBe_J273 at E
  refine g_aload_n (n := 0) X (by decide +kernel) 0 rfl ?_
  refine g_getI X (by decide +kernel) fl5_56 px0 ?_
  refine g_iconst (n := -1) (x := (-1 : Int32)) X (by decide +kernel) (by decide) ?_
  have hJ : Go Γ (0, 0) 286 [] [.int (if (h.1 x0 10) = (-1 : Int32) then (0 : Int32) else (1 : Int32))] sz K h := by
    obtain ⟨rfl, rfl⟩ := rt_E E
    exact g_zreturn X (by decide +kernel) (by (repeat' split) <;> rfl)
  clear E
  by_cases c34 : (h.1 x0 10) = (-1 : Int32)
  · rw [if_pos c34] at hJ
    refine g_icmp_eq_t (off := 7) (tgt := 285) X (by decide +kernel) (by decide) c34 ?_
    refine g_iconst (n := 0) (x := (0 : Int32)) X (by decide +kernel) (by decide) ?_
    refine g_sub [] rfl ?_
    exact hJ
  · rw [if_neg c34] at hJ
    refine g_icmp_eq_f (off := 7) (tgt := 285) X (by decide +kernel) (by decide) c34 ?_
    refine g_iconst (n := 1) (x := (1 : Int32)) X (by decide +kernel) (by decide) ?_
    refine g_goto (off := 4) (tgt := 286) X (by decide +kernel) (by decide) ?_
    refine g_sub [] rfl ?_
    exact hJ
set_option maxHeartbeats 4000000 in
set_option maxRecDepth 20000 in
theorem c5_canBe {sp : Sp} {K : Ly} {sz n : Nat} (hK : LyOk K) (o : Nat) (a1 : Int32) (h : Hp) (ho : K o = some (.inl 5)) {v : Int32} {hf : Hp} (E : f5_canBe K n o a1 h = some (v, hf)) : Con sp y5_canBe prog_8_method_7_code 2 (some (.boolean)) 2 0 0 [.ref o, .int a1] sz K h (some (.int v)) sz K hf := by
  refine Con.of (by decide) (Nat.le_of_ble_eq_true rfl) (fun Γ X _ => ?_)
  show Go Γ (0, 0) 0 [(0, .ref o), (1, .int a1)] [] sz K h
  unfold f5_canBe at E
  refine g_iload_n (n := 1) X (by decide +kernel) 1 rfl ?_
  rcases it_E E with ⟨c1, E⟩ | ⟨c1, E⟩
  · refine g_tab_in (dflt := 272) (lo := 99) (hi := 116) (offs := #[87, 211, 272, 272, 272, 272, 272, 272, 257, 110, 154, 124, 272, 272, 272, 197, 272, 234]) (len := 87) (off := 87) (tgt := 88) X (by decide +kernel) (by rw [c1]; decide) (by rw [c1]; decide) (by rw [c1]; decide) (by decide) ?_
    refine g_aload_n (n := 0) X (by decide +kernel) 0 rfl ?_
    refine g_getI X (by decide +kernel) fl5_56 ho ?_
    refine g_iconst (n := 1) (x := (1 : Int32)) X (by decide +kernel) (by decide) ?_
    have hJ : Go Γ (0, 0) 110 [] [.int (if (h.1 o 10) < (1 : Int32) then (0 : Int32) else (if (6 : Int32) < (h.1 o 10) then (0 : Int32) else (1 : Int32)))] sz K h := by
      obtain ⟨rfl, rfl⟩ := rt_E E
      exact g_zreturn X (by decide +kernel) (by (repeat' split) <;> rfl)
    clear E
    by_cases c2 : (h.1 o 10) < (1 : Int32)
    · rw [if_pos c2] at hJ
      refine g_icmp_lt_t (off := 16) (tgt := 109) X (by decide +kernel) (by decide) c2 ?_
      refine g_iconst (n := 0) (x := (0 : Int32)) X (by decide +kernel) (by decide) ?_
      refine g_sub [] rfl ?_
      exact hJ
    · rw [if_neg c2] at hJ
      refine g_icmp_lt_f (off := 16) (tgt := 109) X (by decide +kernel) (by decide) c2 ?_
      refine g_aload_n (n := 0) X (by decide +kernel) 0 rfl ?_
      refine g_getI X (by decide +kernel) fl5_56 ho ?_
      refine g_bipush (n := 6) (x := (6 : Int32)) X (by decide +kernel) (by decide) ?_
      by_cases c3 : (6 : Int32) < (h.1 o 10)
      · rw [if_pos c3] at hJ
        refine g_icmp_gt_t (off := 7) (tgt := 109) X (by decide +kernel) (by decide) c3 ?_
        refine g_iconst (n := 0) (x := (0 : Int32)) X (by decide +kernel) (by decide) ?_
        refine g_sub [] rfl ?_
        exact hJ
      · rw [if_neg c3] at hJ
        refine g_icmp_gt_f (off := 7) (tgt := 109) X (by decide +kernel) (by decide) c3 ?_
        refine g_iconst (n := 1) (x := (1 : Int32)) X (by decide +kernel) (by decide) ?_
        refine g_goto (off := 4) (tgt := 110) X (by decide +kernel) (by decide) ?_
        refine g_sub [] rfl ?_
        exact hJ
  · rcases it_E E with ⟨c4, E⟩ | ⟨c4, E⟩
    · refine g_tab_in (dflt := 272) (lo := 99) (hi := 116) (offs := #[87, 211, 272, 272, 272, 272, 272, 272, 257, 110, 154, 124, 272, 272, 272, 197, 272, 234]) (len := 87) (off := 211) (tgt := 212) X (by decide +kernel) (by rw [c4]; decide) (by rw [c4]; decide) (by rw [c4]; decide) (by decide) ?_
      refine g_aload_n (n := 0) X (by decide +kernel) 0 rfl ?_
      refine g_getI X (by decide +kernel) fl5_56 ho ?_
      refine g_iconst (n := 1) (x := (1 : Int32)) X (by decide +kernel) (by decide) ?_
      have hJ : Go Γ (0, 0) 234 [] [.int (if (h.1 o 10) < (1 : Int32) then (0 : Int32) else (if (9 : Int32) < (h.1 o 10) then (0 : Int32) else (1 : Int32)))] sz K h := by
        obtain ⟨rfl, rfl⟩ := rt_E E
        exact g_zreturn X (by decide +kernel) (by (repeat' split) <;> rfl)
      clear E
      by_cases c5 : (h.1 o 10) < (1 : Int32)
      · rw [if_pos c5] at hJ
        refine g_icmp_lt_t (off := 16) (tgt := 233) X (by decide +kernel) (by decide) c5 ?_
        refine g_iconst (n := 0) (x := (0 : Int32)) X (by decide +kernel) (by decide) ?_
        refine g_sub [] rfl ?_
        exact hJ
      · rw [if_neg c5] at hJ
        refine g_icmp_lt_f (off := 16) (tgt := 233) X (by decide +kernel) (by decide) c5 ?_
        refine g_aload_n (n := 0) X (by decide +kernel) 0 rfl ?_
        refine g_getI X (by decide +kernel) fl5_56 ho ?_
        refine g_bipush (n := 9) (x := (9 : Int32)) X (by decide +kernel) (by decide) ?_
        by_cases c6 : (9 : Int32) < (h.1 o 10)
        · rw [if_pos c6] at hJ
          refine g_icmp_gt_t (off := 7) (tgt := 233) X (by decide +kernel) (by decide) c6 ?_
          refine g_iconst (n := 0) (x := (0 : Int32)) X (by decide +kernel) (by decide) ?_
          refine g_sub [] rfl ?_
          exact hJ
        · rw [if_neg c6] at hJ
          refine g_icmp_gt_f (off := 7) (tgt := 233) X (by decide +kernel) (by decide) c6 ?_
          refine g_iconst (n := 1) (x := (1 : Int32)) X (by decide +kernel) (by decide) ?_
          refine g_goto (off := 4) (tgt := 234) X (by decide +kernel) (by decide) ?_
          refine g_sub [] rfl ?_
          exact hJ
    · rcases it_E E with ⟨c7, E⟩ | ⟨c7, E⟩
      · refine g_tab_in (dflt := 272) (lo := 99) (hi := 116) (offs := #[87, 211, 272, 272, 272, 272, 272, 272, 257, 110, 154, 124, 272, 272, 272, 197, 272, 234]) (len := 87) (off := 272) (tgt := 273) X (by decide +kernel) (by rw [c7]; decide) (by rw [c7]; decide) (by rw [c7]; decide) (by decide) ?_
        refine g_sub [0] rfl ?_
        exact w5_canBe_J273 X hK o h ho E
      · rcases it_E E with ⟨c8, E⟩ | ⟨c8, E⟩
        · refine g_tab_in (dflt := 272) (lo := 99) (hi := 116) (offs := #[87, 211, 272, 272, 272, 272, 272, 272, 257, 110, 154, 124, 272, 272, 272, 197, 272, 234]) (len := 87) (off := 272) (tgt := 273) X (by decide +kernel) (by rw [c8]; decide) (by rw [c8]; decide) (by rw [c8]; decide) (by decide) ?_
          refine g_sub [0] rfl ?_
          exact w5_canBe_J273 X hK o h ho E
        · rcases it_E E with ⟨c9, E⟩ | ⟨c9, E⟩
          · refine g_tab_in (dflt := 272) (lo := 99) (hi := 116) (offs := #[87, 211, 272, 272, 272, 272, 272, 272, 257, 110, 154, 124, 272, 272, 272, 197, 272, 234]) (len := 87) (off := 272) (tgt := 273) X (by decide +kernel) (by rw [c9]; decide) (by rw [c9]; decide) (by rw [c9]; decide) (by decide) ?_
            refine g_sub [0] rfl ?_
            exact w5_canBe_J273 X hK o h ho E
          · rcases it_E E with ⟨c10, E⟩ | ⟨c10, E⟩
            · refine g_tab_in (dflt := 272) (lo := 99) (hi := 116) (offs := #[87, 211, 272, 272, 272, 272, 272, 272, 257, 110, 154, 124, 272, 272, 272, 197, 272, 234]) (len := 87) (off := 272) (tgt := 273) X (by decide +kernel) (by rw [c10]; decide) (by rw [c10]; decide) (by rw [c10]; decide) (by decide) ?_
              refine g_sub [0] rfl ?_
              exact w5_canBe_J273 X hK o h ho E
            · rcases it_E E with ⟨c11, E⟩ | ⟨c11, E⟩
              · refine g_tab_in (dflt := 272) (lo := 99) (hi := 116) (offs := #[87, 211, 272, 272, 272, 272, 272, 272, 257, 110, 154, 124, 272, 272, 272, 197, 272, 234]) (len := 87) (off := 272) (tgt := 273) X (by decide +kernel) (by rw [c11]; decide) (by rw [c11]; decide) (by rw [c11]; decide) (by decide) ?_
                refine g_sub [0] rfl ?_
                exact w5_canBe_J273 X hK o h ho E
              · rcases it_E E with ⟨c12, E⟩ | ⟨c12, E⟩
                · refine g_tab_in (dflt := 272) (lo := 99) (hi := 116) (offs := #[87, 211, 272, 272, 272, 272, 272, 272, 257, 110, 154, 124, 272, 272, 272, 197, 272, 234]) (len := 87) (off := 272) (tgt := 273) X (by decide +kernel) (by rw [c12]; decide) (by rw [c12]; decide) (by rw [c12]; decide) (by decide) ?_
                  refine g_sub [0] rfl ?_
                  exact w5_canBe_J273 X hK o h ho E
                · rcases it_E E with ⟨c13, E⟩ | ⟨c13, E⟩
                  · refine g_tab_in (dflt := 272) (lo := 99) (hi := 116) (offs := #[87, 211, 272, 272, 272, 272, 272, 272, 257, 110, 154, 124, 272, 272, 272, 197, 272, 234]) (len := 87) (off := 257) (tgt := 258) X (by decide +kernel) (by rw [c13]; decide) (by rw [c13]; decide) (by rw [c13]; decide) (by decide) ?_
                    refine g_aload_n (n := 0) X (by decide +kernel) 0 rfl ?_
                    refine g_getI X (by decide +kernel) fl5_56 ho ?_
                    refine g_bipush (n := 40) (x := (40 : Int32)) X (by decide +kernel) (by decide) ?_
                    have hJ : Go Γ (0, 0) 272 [] [.int (if (40 : Int32) ≤ (h.1 o 10) then (0 : Int32) else (1 : Int32))] sz K h := by
                      obtain ⟨rfl, rfl⟩ := rt_E E
                      exact g_zreturn X (by decide +kernel) (by (repeat' split) <;> rfl)
                    clear E
                    by_cases c14 : (40 : Int32) ≤ (h.1 o 10)
                    · rw [if_pos c14] at hJ
                      refine g_icmp_ge_t (off := 7) (tgt := 271) X (by decide +kernel) (by decide) c14 ?_
                      refine g_iconst (n := 0) (x := (0 : Int32)) X (by decide +kernel) (by decide) ?_
                      refine g_sub [] rfl ?_
                      exact hJ
                    · rw [if_neg c14] at hJ
                      refine g_icmp_ge_f (off := 7) (tgt := 271) X (by decide +kernel) (by decide) c14 ?_
                      refine g_iconst (n := 1) (x := (1 : Int32)) X (by decide +kernel) (by decide) ?_
                      refine g_goto (off := 4) (tgt := 272) X (by decide +kernel) (by decide) ?_
                      refine g_sub [] rfl ?_
                      exact hJ
                  · rcases it_E E with ⟨c15, E⟩ | ⟨c15, E⟩
                    · refine g_tab_in (dflt := 272) (lo := 99) (hi := 116) (offs := #[87, 211, 272, 272, 272, 272, 272, 272, 257, 110, 154, 124, 272, 272, 272, 197, 272, 234]) (len := 87) (off := 110) (tgt := 111) X (by decide +kernel) (by rw [c15]; decide) (by rw [c15]; decide) (by rw [c15]; decide) (by decide) ?_
                      refine g_aload_n (n := 0) X (by decide +kernel) 0 rfl ?_
                      refine g_getI X (by decide +kernel) fl5_56 ho ?_
                      refine g_iconst (n := 1) (x := (1 : Int32)) X (by decide +kernel) (by decide) ?_
                      have hJ : Go Γ (0, 0) 124 [] [.int (if (h.1 o 10) < (1 : Int32) then (0 : Int32) else (1 : Int32))] sz K h := by
                        obtain ⟨rfl, rfl⟩ := rt_E E
                        exact g_zreturn X (by decide +kernel) (by (repeat' split) <;> rfl)
                      clear E
                      by_cases c16 : (h.1 o 10) < (1 : Int32)
                      · rw [if_pos c16] at hJ
                        refine g_icmp_lt_t (off := 7) (tgt := 123) X (by decide +kernel) (by decide) c16 ?_
                        refine g_iconst (n := 0) (x := (0 : Int32)) X (by decide +kernel) (by decide) ?_
                        refine g_sub [] rfl ?_
                        exact hJ
                      · rw [if_neg c16] at hJ
                        refine g_icmp_lt_f (off := 7) (tgt := 123) X (by decide +kernel) (by decide) c16 ?_
                        refine g_iconst (n := 1) (x := (1 : Int32)) X (by decide +kernel) (by decide) ?_
                        refine g_goto (off := 4) (tgt := 124) X (by decide +kernel) (by decide) ?_
                        refine g_sub [] rfl ?_
                        exact hJ
                    · rcases it_E E with ⟨c17, E⟩ | ⟨c17, E⟩
                      · refine g_tab_in (dflt := 272) (lo := 99) (hi := 116) (offs := #[87, 211, 272, 272, 272, 272, 272, 272, 257, 110, 154, 124, 272, 272, 272, 197, 272, 234]) (len := 87) (off := 154) (tgt := 155) X (by decide +kernel) (by rw [c17]; decide) (by rw [c17]; decide) (by rw [c17]; decide) (by decide) ?_
                        refine g_aload_n (n := 0) X (by decide +kernel) 0 rfl ?_
                        refine g_aload_n (n := 0) X (by decide +kernel) 0 rfl ?_
                        refine g_getI X (by decide +kernel) fl5_59 ho ?_
                        refine g_aload_n (n := 0) X (by decide +kernel) 0 rfl ?_
                        refine g_getI X (by decide +kernel) fl5_56 ho ?_
                        refine g_mmax X (by decide +kernel) ml5_127 (by decide) (Nat.le_of_ble_eq_true rfl) ?_
                        obtain ⟨h18, eh18, E⟩ := lt_E E
                        refine g_putI X (by decide +kernel) fp5_59 ho eh18 ?_
                        refine g_aload_n (n := 0) X (by decide +kernel) 0 rfl ?_
                        refine g_getI X (by decide +kernel) fl5_56 ho ?_
                        refine g_bipush (n := 6) (x := (6 : Int32)) X (by decide +kernel) (by decide) ?_
                        rcases it_E E with ⟨c19, E⟩ | ⟨c19, E⟩
                        · refine g_icmp_ge_t (off := 20) (tgt := 196) X (by decide +kernel) (by decide) c19 ?_
                          refine g_iconst (n := 0) (x := (0 : Int32)) X (by decide +kernel) (by decide) ?_
                          obtain ⟨rfl, rfl⟩ := rt_E E
                          exact g_zreturn X (by decide +kernel) rfl
                        · refine g_icmp_ge_f (off := 20) (tgt := 196) X (by decide +kernel) (by decide) c19 ?_
                          refine g_aload_n (n := 0) X (by decide +kernel) 0 rfl ?_
                          refine g_getI X (by decide +kernel) fl5_56 ho ?_
                          refine g_aload_n (n := 0) X (by decide +kernel) 0 rfl ?_
                          refine g_getS X (by decide +kernel) fl5_32 ho ?_
                          refine g_iconst (n := 0) (x := (0 : Int32)) X (by decide +kernel) (by decide) ?_
                          refine g_iald X (by decide +kernel) (ly hK ho fl5_32 rfl) (by decide) ?_
                          have hJ : Go Γ (0, 0) 197 [] [.int (if (h18.1 o 10) = (h18.1 (o + 21) (0 : Int32).toNatClampNeg) then (0 : Int32) else (1 : Int32))] sz K h18 := by
                            obtain ⟨rfl, rfl⟩ := rt_E E
                            exact g_zreturn X (by decide +kernel) (by (repeat' split) <;> rfl)
                          clear E
                          by_cases c20 : (h18.1 o 10) = (h18.1 (o + 21) (0 : Int32).toNatClampNeg)
                          · rw [if_pos c20] at hJ
                            refine g_icmp_eq_t (off := 7) (tgt := 196) X (by decide +kernel) (by decide) c20 ?_
                            refine g_iconst (n := 0) (x := (0 : Int32)) X (by decide +kernel) (by decide) ?_
                            refine g_sub [] rfl ?_
                            exact hJ
                          · rw [if_neg c20] at hJ
                            refine g_icmp_eq_f (off := 7) (tgt := 196) X (by decide +kernel) (by decide) c20 ?_
                            refine g_iconst (n := 1) (x := (1 : Int32)) X (by decide +kernel) (by decide) ?_
                            refine g_goto (off := 4) (tgt := 197) X (by decide +kernel) (by decide) ?_
                            refine g_sub [] rfl ?_
                            exact hJ
                      · rcases it_E E with ⟨c21, E⟩ | ⟨c21, E⟩
                        · refine g_tab_in (dflt := 272) (lo := 99) (hi := 116) (offs := #[87, 211, 272, 272, 272, 272, 272, 272, 257, 110, 154, 124, 272, 272, 272, 197, 272, 234]) (len := 87) (off := 124) (tgt := 125) X (by decide +kernel) (by rw [c21]; decide) (by rw [c21]; decide) (by rw [c21]; decide) (by decide) ?_
                          refine g_aload_n (n := 0) X (by decide +kernel) 0 rfl ?_
                          refine g_aload_n (n := 0) X (by decide +kernel) 0 rfl ?_
                          refine g_getI X (by decide +kernel) fl5_59 ho ?_
                          refine g_aload_n (n := 0) X (by decide +kernel) 0 rfl ?_
                          refine g_getI X (by decide +kernel) fl5_56 ho ?_
                          refine g_mmax X (by decide +kernel) ml5_127 (by decide) (Nat.le_of_ble_eq_true rfl) ?_
                          obtain ⟨h22, eh22, E⟩ := lt_E E
                          refine g_putI X (by decide +kernel) fp5_59 ho eh22 ?_
                          refine g_aload_n (n := 0) X (by decide +kernel) 0 rfl ?_
                          refine g_getI X (by decide +kernel) fl5_56 ho ?_
                          refine g_bipush (n := 6) (x := (6 : Int32)) X (by decide +kernel) (by decide) ?_
                          have hJ : Go Γ (0, 0) 154 [] [.int (if (6 : Int32) ≤ (h22.1 o 10) then (0 : Int32) else (1 : Int32))] sz K h22 := by
                            obtain ⟨rfl, rfl⟩ := rt_E E
                            exact g_zreturn X (by decide +kernel) (by (repeat' split) <;> rfl)
                          clear E
                          by_cases c23 : (6 : Int32) ≤ (h22.1 o 10)
                          · rw [if_pos c23] at hJ
                            refine g_icmp_ge_t (off := 7) (tgt := 153) X (by decide +kernel) (by decide) c23 ?_
                            refine g_iconst (n := 0) (x := (0 : Int32)) X (by decide +kernel) (by decide) ?_
                            refine g_sub [] rfl ?_
                            exact hJ
                          · rw [if_neg c23] at hJ
                            refine g_icmp_ge_f (off := 7) (tgt := 153) X (by decide +kernel) (by decide) c23 ?_
                            refine g_iconst (n := 1) (x := (1 : Int32)) X (by decide +kernel) (by decide) ?_
                            refine g_goto (off := 4) (tgt := 154) X (by decide +kernel) (by decide) ?_
                            refine g_sub [] rfl ?_
                            exact hJ
                        · rcases it_E E with ⟨c24, E⟩ | ⟨c24, E⟩
                          · refine g_tab_in (dflt := 272) (lo := 99) (hi := 116) (offs := #[87, 211, 272, 272, 272, 272, 272, 272, 257, 110, 154, 124, 272, 272, 272, 197, 272, 234]) (len := 87) (off := 272) (tgt := 273) X (by decide +kernel) (by rw [c24]; decide) (by rw [c24]; decide) (by rw [c24]; decide) (by decide) ?_
                            refine g_sub [0] rfl ?_
                            exact w5_canBe_J273 X hK o h ho E
                          · rcases it_E E with ⟨c25, E⟩ | ⟨c25, E⟩
                            · refine g_tab_in (dflt := 272) (lo := 99) (hi := 116) (offs := #[87, 211, 272, 272, 272, 272, 272, 272, 257, 110, 154, 124, 272, 272, 272, 197, 272, 234]) (len := 87) (off := 272) (tgt := 273) X (by decide +kernel) (by rw [c25]; decide) (by rw [c25]; decide) (by rw [c25]; decide) (by decide) ?_
                              refine g_sub [0] rfl ?_
                              exact w5_canBe_J273 X hK o h ho E
                            · rcases it_E E with ⟨c26, E⟩ | ⟨c26, E⟩
                              · refine g_tab_in (dflt := 272) (lo := 99) (hi := 116) (offs := #[87, 211, 272, 272, 272, 272, 272, 272, 257, 110, 154, 124, 272, 272, 272, 197, 272, 234]) (len := 87) (off := 272) (tgt := 273) X (by decide +kernel) (by rw [c26]; decide) (by rw [c26]; decide) (by rw [c26]; decide) (by decide) ?_
                                refine g_sub [0] rfl ?_
                                exact w5_canBe_J273 X hK o h ho E
                              · rcases it_E E with ⟨c27, E⟩ | ⟨c27, E⟩
                                · refine g_tab_in (dflt := 272) (lo := 99) (hi := 116) (offs := #[87, 211, 272, 272, 272, 272, 272, 272, 257, 110, 154, 124, 272, 272, 272, 197, 272, 234]) (len := 87) (off := 197) (tgt := 198) X (by decide +kernel) (by rw [c27]; decide) (by rw [c27]; decide) (by rw [c27]; decide) (by decide) ?_
                                  refine g_aload_n (n := 0) X (by decide +kernel) 0 rfl ?_
                                  refine g_getI X (by decide +kernel) fl5_56 ho ?_
                                  refine g_iconst (n := 4) (x := (4 : Int32)) X (by decide +kernel) (by decide) ?_
                                  have hJ : Go Γ (0, 0) 211 [] [.int (if (4 : Int32) < (h.1 o 10) then (0 : Int32) else (1 : Int32))] sz K h := by
                                    obtain ⟨rfl, rfl⟩ := rt_E E
                                    exact g_zreturn X (by decide +kernel) (by (repeat' split) <;> rfl)
                                  clear E
                                  by_cases c28 : (4 : Int32) < (h.1 o 10)
                                  · rw [if_pos c28] at hJ
                                    refine g_icmp_gt_t (off := 7) (tgt := 210) X (by decide +kernel) (by decide) c28 ?_
                                    refine g_iconst (n := 0) (x := (0 : Int32)) X (by decide +kernel) (by decide) ?_
                                    refine g_sub [] rfl ?_
                                    exact hJ
                                  · rw [if_neg c28] at hJ
                                    refine g_icmp_gt_f (off := 7) (tgt := 210) X (by decide +kernel) (by decide) c28 ?_
                                    refine g_iconst (n := 1) (x := (1 : Int32)) X (by decide +kernel) (by decide) ?_
                                    refine g_goto (off := 4) (tgt := 211) X (by decide +kernel) (by decide) ?_
                                    refine g_sub [] rfl ?_
                                    exact hJ
                                · rcases it_E E with ⟨c29, E⟩ | ⟨c29, E⟩
                                  · refine g_tab_in (dflt := 272) (lo := 99) (hi := 116) (offs := #[87, 211, 272, 272, 272, 272, 272, 272, 257, 110, 154, 124, 272, 272, 272, 197, 272, 234]) (len := 87) (off := 272) (tgt := 273) X (by decide +kernel) (by rw [c29]; decide) (by rw [c29]; decide) (by rw [c29]; decide) (by decide) ?_
                                    refine g_sub [0] rfl ?_
                                    exact w5_canBe_J273 X hK o h ho E
                                  · rcases it_E E with ⟨c30, E⟩ | ⟨c30, E⟩
                                    · refine g_tab_in (dflt := 272) (lo := 99) (hi := 116) (offs := #[87, 211, 272, 272, 272, 272, 272, 272, 257, 110, 154, 124, 272, 272, 272, 197, 272, 234]) (len := 87) (off := 234) (tgt := 235) X (by decide +kernel) (by rw [c30]; decide) (by rw [c30]; decide) (by rw [c30]; decide) (by decide) ?_
                                      refine g_aload_n (n := 0) X (by decide +kernel) 0 rfl ?_
                                      refine g_getI X (by decide +kernel) fl5_56 ho ?_
                                      refine g_iconst (n := 1) (x := (1 : Int32)) X (by decide +kernel) (by decide) ?_
                                      have hJ : Go Γ (0, 0) 257 [] [.int (if (h.1 o 10) < (1 : Int32) then (0 : Int32) else (if (20 : Int32) < (h.1 o 10) then (0 : Int32) else (1 : Int32)))] sz K h := by
                                        obtain ⟨rfl, rfl⟩ := rt_E E
                                        exact g_zreturn X (by decide +kernel) (by (repeat' split) <;> rfl)
                                      clear E
                                      by_cases c31 : (h.1 o 10) < (1 : Int32)
                                      · rw [if_pos c31] at hJ
                                        refine g_icmp_lt_t (off := 16) (tgt := 256) X (by decide +kernel) (by decide) c31 ?_
                                        refine g_iconst (n := 0) (x := (0 : Int32)) X (by decide +kernel) (by decide) ?_
                                        refine g_sub [] rfl ?_
                                        exact hJ
                                      · rw [if_neg c31] at hJ
                                        refine g_icmp_lt_f (off := 16) (tgt := 256) X (by decide +kernel) (by decide) c31 ?_
                                        refine g_aload_n (n := 0) X (by decide +kernel) 0 rfl ?_
                                        refine g_getI X (by decide +kernel) fl5_56 ho ?_
                                        refine g_bipush (n := 20) (x := (20 : Int32)) X (by decide +kernel) (by decide) ?_
                                        by_cases c32 : (20 : Int32) < (h.1 o 10)
                                        · rw [if_pos c32] at hJ
                                          refine g_icmp_gt_t (off := 7) (tgt := 256) X (by decide +kernel) (by decide) c32 ?_
                                          refine g_iconst (n := 0) (x := (0 : Int32)) X (by decide +kernel) (by decide) ?_
                                          refine g_sub [] rfl ?_
                                          exact hJ
                                        · rw [if_neg c32] at hJ
                                          refine g_icmp_gt_f (off := 7) (tgt := 256) X (by decide +kernel) (by decide) c32 ?_
                                          refine g_iconst (n := 1) (x := (1 : Int32)) X (by decide +kernel) (by decide) ?_
                                          refine g_goto (off := 4) (tgt := 257) X (by decide +kernel) (by decide) ?_
                                          refine g_sub [] rfl ?_
                                          exact hJ
                                    · have z33 : a1.toInt < 99 ∨ 116 < a1.toInt := by
                                        have z := sw_out (x := a1) 99 17 (by decide) (by decide) (by
                                          intro j hj
                                          have hj2 : j = 0 ∨ j = 1 ∨ j = 2 ∨ j = 3 ∨ j = 4 ∨ j = 5 ∨ j = 6 ∨ j = 7 ∨ j = 8 ∨ j = 9 ∨ j = 10 ∨ j = 11 ∨ j = 12 ∨ j = 13 ∨ j = 14 ∨ j = 15 ∨ j = 16 ∨ j = 17 := by omega
                                          rcases hj2 with rfl | rfl | rfl | rfl | rfl | rfl | rfl | rfl | rfl | rfl | rfl | rfl | rfl | rfl | rfl | rfl | rfl | rfl
                                          · exact c1
                                          · exact c4
                                          · exact c7
                                          · exact c8
                                          · exact c9
                                          · exact c10
                                          · exact c11
                                          · exact c12
                                          · exact c13
                                          · exact c15
                                          · exact c17
                                          · exact c21
                                          · exact c24
                                          · exact c25
                                          · exact c26
                                          · exact c27
                                          · exact c29
                                          · exact c30)
                                        simpa using z
                                      refine g_tab_out (dflt := 272) (lo := 99) (hi := 116) (offs := #[87, 211, 272, 272, 272, 272, 272, 272, 257, 110, 154, 124, 272, 272, 272, 197, 272, 234]) (len := 87) (tgt := 273) X (by decide +kernel) z33 (by decide) ?_
                                      refine g_sub [0] rfl ?_
                                      exact w5_canBe_J273 X hK o h ho E
-- Reader.tell
def f5_tell_J224 (K : Ly) (n : Nat)  (s0 : Nat) (s1 : Int32) (s2 : Int32) (s3 : Int32) (h : Hp) : Option Hp :=
    bp (f3_add K n s0 s1 s2 s3 h) fun h23 =>
    some h23
def f5_tell_J256 (K : Ly) (n : Nat)  (s0 : Nat) (s1 : Int32) (s2 : Int32) (h : Hp) : Option Hp :=
    bp (f4_add K n s0 s1 s2 h) fun h25 =>
    some h25
def f5_tell (K : Ly) (n : Nat) (o : Nat) (a1 : Int32) (h : Hp) : Option Hp :=
    if a1 = (0 : Int32) then (
    lt (sI h (o + 1) 0 (h.1 (o + 21) (0 : Int32).toNatClampNeg)) fun h2 =>
    some h2)
    else if a1 = (1 : Int32) then (
    lt (sI h (o + 1) 1 (h.1 (o + 21) (0 : Int32).toNatClampNeg)) fun h4 =>
    some h4)
    else if a1 = (2 : Int32) then (
    gd (inb (h.1 (o + 21) (0 : Int32).toNatClampNeg) 6) <|
    lt (sI h ((o + 1) + 1) (h.1 (o + 21) (0 : Int32).toNatClampNeg).toNatClampNeg (h.1 (o + 21) (1 : Int32).toNatClampNeg)) fun h7 =>
    some h7)
    else if a1 = (3 : Int32) then (
    bp (f2_addLink K n (o + 1) (h.1 (o + 21) (0 : Int32).toNatClampNeg) (h.1 (o + 21) (1 : Int32).toNatClampNeg) (h.1 (o + 21) (2 : Int32).toNatClampNeg) h) fun h10 =>
    some h10)
    else if a1 = (4 : Int32) then (
    bp (f2_addRoute K n (o + 1) (h.1 (o + 21) (0 : Int32).toNatClampNeg) (h.1 (o + 21) (1 : Int32).toNatClampNeg) (h.1 (o + 21) (2 : Int32).toNatClampNeg) (h.1 (o + 21) (3 : Int32).toNatClampNeg) h) fun h13 =>
    some h13)
    else if a1 = (5 : Int32) then (
    bp (f2_addServe K n (o + 1) (h.1 (o + 21) (0 : Int32).toNatClampNeg) (h.1 (o + 21) (1 : Int32).toNatClampNeg) (h.1 (o + 21) (2 : Int32).toNatClampNeg) h) fun h16 =>
    some h16)
    else (
    if (h.1 o 6) = (1 : Int32) then (
    lt (a1 - (6 : Int32)) fun x2_18 =>
    if x2_18 = (2 : Int32) then (
    f5_tell_J224 K n (o + 14) x2_18 (h.1 (o + 21) (0 : Int32).toNatClampNeg) (-1 : Int32) h)
    else (
    f5_tell_J224 K n (o + 14) x2_18 (h.1 (o + 21) (0 : Int32).toNatClampNeg) (h.1 (o + 21) (1 : Int32).toNatClampNeg) h))
    else (
    if a1 = (11 : Int32) then (
    f5_tell_J256 K n (o + 18) (h.1 (o + 21) (0 : Int32).toNatClampNeg) (h.1 (o + 21) (1 : Int32).toNatClampNeg) h)
    else (
    f5_tell_J256 K n (o + 18) (h.1 (o + 21) (0 : Int32).toNatClampNeg) (-1 : Int32) h)))
set_option maxHeartbeats 4000000 in
set_option maxRecDepth 20000 in
theorem w5_tell_J224 {Γ : CT} {sp : Sp} {K : Ly} {sz n : Nat} {hf : Hp}   (X : Ok Γ sp prog_8_method_8_code Rc5 3 none 2 none sz K hf) (hK : LyOk K) (s0 : Nat) (s1 : Int32) (s2 : Int32) (s3 : Int32) (h : Hp)  (ps0 : K s0 = some (.inl 3)) (E : f5_tell_J224 K n s0 s1 s2 s3 h = some hf) : Go Γ (0, 0) 224 [] [.int s3, .int s2, .int s1, .ref s0] sz K h := by
  unfold f5_tell_J224 at E
  obtain ⟨h23, e22, E⟩ := bp_E E
  refine g_callV0 (st := []) X [.int s1, .int s2, .int s3] (by decide +kernel) ml5_150 ps0 rfl rfl (by decide) (Nat.le_of_ble_eq_true rfl) (c3_add hK s0 s1 s2 s3 h ps0 e22) ?_
  refine g_goto (off := 32) (tgt := 259) X (by decide +kernel) (by decide) ?_
  obtain rfl := Option.some.inj E
  exact g_return X (by decide +kernel)
set_option maxHeartbeats 4000000 in
set_option maxRecDepth 20000 in
theorem w5_tell_J256 {Γ : CT} {sp : Sp} {K : Ly} {sz n : Nat} {hf : Hp}   (X : Ok Γ sp prog_8_method_8_code Rc5 3 none 2 none sz K hf) (hK : LyOk K) (s0 : Nat) (s1 : Int32) (s2 : Int32) (h : Hp)  (ps0 : K s0 = some (.inl 4)) (E : f5_tell_J256 K n s0 s1 s2 h = some hf) : Go Γ (0, 0) 256 [] [.int s2, .int s1, .ref s0] sz K h := by
  unfold f5_tell_J256 at E
  obtain ⟨h25, e24, E⟩ := bp_E E
  refine g_callV0 (st := []) X [.int s1, .int s2] (by decide +kernel) ml5_153 ps0 rfl rfl (by decide) (Nat.le_of_ble_eq_true rfl) (c4_add hK s0 s1 s2 h ps0 e24) ?_
  obtain rfl := Option.some.inj E
  exact g_return X (by decide +kernel)
set_option maxHeartbeats 4000000 in
set_option maxRecDepth 20000 in
theorem c5_tell {sp : Sp} {K : Ly} {sz n : Nat} (hK : LyOk K) (o : Nat) (a1 : Int32) (h : Hp) (ho : K o = some (.inl 5)) {hf : Hp} (E : f5_tell K n o a1 h = some hf) : Con sp y5_tell prog_8_method_8_code 3 none 2 0 0 [.ref o, .int a1] sz K h none sz K hf := by
  refine Con.of (by decide) (Nat.le_of_ble_eq_true rfl) (fun Γ X _ => ?_)
  show Go Γ (0, 0) 0 [(0, .ref o), (1, .int a1)] [] sz K h
  unfold f5_tell at E
  refine g_iload_n (n := 1) X (by decide +kernel) 1 rfl ?_
  rcases it_E E with ⟨c1, E⟩ | ⟨c1, E⟩
  · refine g_tab_in (dflt := 184) (lo := 0) (hi := 5) (offs := #[39, 55, 71, 94, 122, 156]) (len := 39) (off := 39) (tgt := 40) X (by decide +kernel) (by rw [c1]; decide) (by rw [c1]; decide) (by rw [c1]; decide) (by decide) ?_
    refine g_aload_n (n := 0) X (by decide +kernel) 0 rfl ?_
    refine g_getS X (by decide +kernel) fl5_12 ho ?_
    refine g_aload_n (n := 0) X (by decide +kernel) 0 rfl ?_
    refine g_getS X (by decide +kernel) fl5_32 ho ?_
    refine g_iconst (n := 0) (x := (0 : Int32)) X (by decide +kernel) (by decide) ?_
    refine g_iald X (by decide +kernel) (ly hK ho fl5_32 rfl) (by decide) ?_
    obtain ⟨h2, eh2, E⟩ := lt_E E
    refine g_putI X (by decide +kernel) fp5_83 (ly hK ho fl5_12 rfl) eh2 ?_
    refine g_goto (off := 206) (tgt := 259) X (by decide +kernel) (by decide) ?_
    obtain rfl := Option.some.inj E
    exact g_return X (by decide +kernel)
  · rcases it_E E with ⟨c3, E⟩ | ⟨c3, E⟩
    · refine g_tab_in (dflt := 184) (lo := 0) (hi := 5) (offs := #[39, 55, 71, 94, 122, 156]) (len := 39) (off := 55) (tgt := 56) X (by decide +kernel) (by rw [c3]; decide) (by rw [c3]; decide) (by rw [c3]; decide) (by decide) ?_
      refine g_aload_n (n := 0) X (by decide +kernel) 0 rfl ?_
      refine g_getS X (by decide +kernel) fl5_12 ho ?_
      refine g_aload_n (n := 0) X (by decide +kernel) 0 rfl ?_
      refine g_getS X (by decide +kernel) fl5_32 ho ?_
      refine g_iconst (n := 0) (x := (0 : Int32)) X (by decide +kernel) (by decide) ?_
      refine g_iald X (by decide +kernel) (ly hK ho fl5_32 rfl) (by decide) ?_
      obtain ⟨h4, eh4, E⟩ := lt_E E
      refine g_putI X (by decide +kernel) fp5_133 (ly hK ho fl5_12 rfl) eh4 ?_
      refine g_goto (off := 190) (tgt := 259) X (by decide +kernel) (by decide) ?_
      obtain rfl := Option.some.inj E
      exact g_return X (by decide +kernel)
    · rcases it_E E with ⟨c5, E⟩ | ⟨c5, E⟩
      · refine g_tab_in (dflt := 184) (lo := 0) (hi := 5) (offs := #[39, 55, 71, 94, 122, 156]) (len := 39) (off := 71) (tgt := 72) X (by decide +kernel) (by rw [c5]; decide) (by rw [c5]; decide) (by rw [c5]; decide) (by decide) ?_
        refine g_aload_n (n := 0) X (by decide +kernel) 0 rfl ?_
        refine g_getS X (by decide +kernel) fl5_12 ho ?_
        refine g_getS X (by decide +kernel) fl5_136 (ly hK ho fl5_12 rfl) ?_
        refine g_aload_n (n := 0) X (by decide +kernel) 0 rfl ?_
        refine g_getS X (by decide +kernel) fl5_32 ho ?_
        refine g_iconst (n := 0) (x := (0 : Int32)) X (by decide +kernel) (by decide) ?_
        refine g_iald X (by decide +kernel) (ly hK ho fl5_32 rfl) (by decide) ?_
        refine g_aload_n (n := 0) X (by decide +kernel) 0 rfl ?_
        refine g_getS X (by decide +kernel) fl5_32 ho ?_
        refine g_iconst (n := 1) (x := (1 : Int32)) X (by decide +kernel) (by decide) ?_
        refine g_iald X (by decide +kernel) (ly hK ho fl5_32 rfl) (by decide) ?_
        obtain ⟨c6, E⟩ := gd_E E
        obtain ⟨h7, eh7, E⟩ := lt_E E
        refine g_iast X (by decide +kernel) (ly hK (ly hK ho fl5_12 rfl) fl5_136 rfl) c6 eh7 ?_
        refine g_goto (off := 167) (tgt := 259) X (by decide +kernel) (by decide) ?_
        obtain rfl := Option.some.inj E
        exact g_return X (by decide +kernel)
      · rcases it_E E with ⟨c8, E⟩ | ⟨c8, E⟩
        · refine g_tab_in (dflt := 184) (lo := 0) (hi := 5) (offs := #[39, 55, 71, 94, 122, 156]) (len := 39) (off := 94) (tgt := 95) X (by decide +kernel) (by rw [c8]; decide) (by rw [c8]; decide) (by rw [c8]; decide) (by decide) ?_
          refine g_aload_n (n := 0) X (by decide +kernel) 0 rfl ?_
          refine g_getS X (by decide +kernel) fl5_12 ho ?_
          refine g_aload_n (n := 0) X (by decide +kernel) 0 rfl ?_
          refine g_getS X (by decide +kernel) fl5_32 ho ?_
          refine g_iconst (n := 0) (x := (0 : Int32)) X (by decide +kernel) (by decide) ?_
          refine g_iald X (by decide +kernel) (ly hK ho fl5_32 rfl) (by decide) ?_
          refine g_aload_n (n := 0) X (by decide +kernel) 0 rfl ?_
          refine g_getS X (by decide +kernel) fl5_32 ho ?_
          refine g_iconst (n := 1) (x := (1 : Int32)) X (by decide +kernel) (by decide) ?_
          refine g_iald X (by decide +kernel) (ly hK ho fl5_32 rfl) (by decide) ?_
          refine g_aload_n (n := 0) X (by decide +kernel) 0 rfl ?_
          refine g_getS X (by decide +kernel) fl5_32 ho ?_
          refine g_iconst (n := 2) (x := (2 : Int32)) X (by decide +kernel) (by decide) ?_
          refine g_iald X (by decide +kernel) (ly hK ho fl5_32 rfl) (by decide) ?_
          obtain ⟨h10, e9, E⟩ := bp_E E
          refine g_callV0 (st := []) X [.int (h.1 (o + 21) (0 : Int32).toNatClampNeg), .int (h.1 (o + 21) (1 : Int32).toNatClampNeg), .int (h.1 (o + 21) (2 : Int32).toNatClampNeg)] (by decide +kernel) ml5_139 (ly hK ho fl5_12 rfl) rfl rfl (by decide) (Nat.le_of_ble_eq_true rfl) (c2_addLink hK (o + 1) (h.1 (o + 21) (0 : Int32).toNatClampNeg) (h.1 (o + 21) (1 : Int32).toNatClampNeg) (h.1 (o + 21) (2 : Int32).toNatClampNeg) h (ly hK ho fl5_12 rfl) e9) ?_
          refine g_goto (off := 139) (tgt := 259) X (by decide +kernel) (by decide) ?_
          obtain rfl := Option.some.inj E
          exact g_return X (by decide +kernel)
        · rcases it_E E with ⟨c11, E⟩ | ⟨c11, E⟩
          · refine g_tab_in (dflt := 184) (lo := 0) (hi := 5) (offs := #[39, 55, 71, 94, 122, 156]) (len := 39) (off := 122) (tgt := 123) X (by decide +kernel) (by rw [c11]; decide) (by rw [c11]; decide) (by rw [c11]; decide) (by decide) ?_
            refine g_aload_n (n := 0) X (by decide +kernel) 0 rfl ?_
            refine g_getS X (by decide +kernel) fl5_12 ho ?_
            refine g_aload_n (n := 0) X (by decide +kernel) 0 rfl ?_
            refine g_getS X (by decide +kernel) fl5_32 ho ?_
            refine g_iconst (n := 0) (x := (0 : Int32)) X (by decide +kernel) (by decide) ?_
            refine g_iald X (by decide +kernel) (ly hK ho fl5_32 rfl) (by decide) ?_
            refine g_aload_n (n := 0) X (by decide +kernel) 0 rfl ?_
            refine g_getS X (by decide +kernel) fl5_32 ho ?_
            refine g_iconst (n := 1) (x := (1 : Int32)) X (by decide +kernel) (by decide) ?_
            refine g_iald X (by decide +kernel) (ly hK ho fl5_32 rfl) (by decide) ?_
            refine g_aload_n (n := 0) X (by decide +kernel) 0 rfl ?_
            refine g_getS X (by decide +kernel) fl5_32 ho ?_
            refine g_iconst (n := 2) (x := (2 : Int32)) X (by decide +kernel) (by decide) ?_
            refine g_iald X (by decide +kernel) (ly hK ho fl5_32 rfl) (by decide) ?_
            refine g_aload_n (n := 0) X (by decide +kernel) 0 rfl ?_
            refine g_getS X (by decide +kernel) fl5_32 ho ?_
            refine g_iconst (n := 3) (x := (3 : Int32)) X (by decide +kernel) (by decide) ?_
            refine g_iald X (by decide +kernel) (ly hK ho fl5_32 rfl) (by decide) ?_
            obtain ⟨h13, e12, E⟩ := bp_E E
            refine g_callV0 (st := []) X [.int (h.1 (o + 21) (0 : Int32).toNatClampNeg), .int (h.1 (o + 21) (1 : Int32).toNatClampNeg), .int (h.1 (o + 21) (2 : Int32).toNatClampNeg), .int (h.1 (o + 21) (3 : Int32).toNatClampNeg)] (by decide +kernel) ml5_143 (ly hK ho fl5_12 rfl) rfl rfl (by decide) (Nat.le_of_ble_eq_true rfl) (c2_addRoute hK (o + 1) (h.1 (o + 21) (0 : Int32).toNatClampNeg) (h.1 (o + 21) (1 : Int32).toNatClampNeg) (h.1 (o + 21) (2 : Int32).toNatClampNeg) (h.1 (o + 21) (3 : Int32).toNatClampNeg) h (ly hK ho fl5_12 rfl) e12) ?_
            refine g_goto (off := 105) (tgt := 259) X (by decide +kernel) (by decide) ?_
            obtain rfl := Option.some.inj E
            exact g_return X (by decide +kernel)
          · rcases it_E E with ⟨c14, E⟩ | ⟨c14, E⟩
            · refine g_tab_in (dflt := 184) (lo := 0) (hi := 5) (offs := #[39, 55, 71, 94, 122, 156]) (len := 39) (off := 156) (tgt := 157) X (by decide +kernel) (by rw [c14]; decide) (by rw [c14]; decide) (by rw [c14]; decide) (by decide) ?_
              refine g_aload_n (n := 0) X (by decide +kernel) 0 rfl ?_
              refine g_getS X (by decide +kernel) fl5_12 ho ?_
              refine g_aload_n (n := 0) X (by decide +kernel) 0 rfl ?_
              refine g_getS X (by decide +kernel) fl5_32 ho ?_
              refine g_iconst (n := 0) (x := (0 : Int32)) X (by decide +kernel) (by decide) ?_
              refine g_iald X (by decide +kernel) (ly hK ho fl5_32 rfl) (by decide) ?_
              refine g_aload_n (n := 0) X (by decide +kernel) 0 rfl ?_
              refine g_getS X (by decide +kernel) fl5_32 ho ?_
              refine g_iconst (n := 1) (x := (1 : Int32)) X (by decide +kernel) (by decide) ?_
              refine g_iald X (by decide +kernel) (ly hK ho fl5_32 rfl) (by decide) ?_
              refine g_aload_n (n := 0) X (by decide +kernel) 0 rfl ?_
              refine g_getS X (by decide +kernel) fl5_32 ho ?_
              refine g_iconst (n := 2) (x := (2 : Int32)) X (by decide +kernel) (by decide) ?_
              refine g_iald X (by decide +kernel) (ly hK ho fl5_32 rfl) (by decide) ?_
              obtain ⟨h16, e15, E⟩ := bp_E E
              refine g_callV0 (st := []) X [.int (h.1 (o + 21) (0 : Int32).toNatClampNeg), .int (h.1 (o + 21) (1 : Int32).toNatClampNeg), .int (h.1 (o + 21) (2 : Int32).toNatClampNeg)] (by decide +kernel) ml5_147 (ly hK ho fl5_12 rfl) rfl rfl (by decide) (Nat.le_of_ble_eq_true rfl) (c2_addServe hK (o + 1) (h.1 (o + 21) (0 : Int32).toNatClampNeg) (h.1 (o + 21) (1 : Int32).toNatClampNeg) (h.1 (o + 21) (2 : Int32).toNatClampNeg) h (ly hK ho fl5_12 rfl) e15) ?_
              refine g_goto (off := 77) (tgt := 259) X (by decide +kernel) (by decide) ?_
              obtain rfl := Option.some.inj E
              exact g_return X (by decide +kernel)
            · have z21 : a1.toInt < 0 ∨ 5 < a1.toInt := by
                have z := sw_out (x := a1) 0 5 (by decide) (by decide) (by
                  intro j hj
                  have hj2 : j = 0 ∨ j = 1 ∨ j = 2 ∨ j = 3 ∨ j = 4 ∨ j = 5 := by omega
                  rcases hj2 with rfl | rfl | rfl | rfl | rfl | rfl
                  · exact c1
                  · exact c3
                  · exact c5
                  · exact c8
                  · exact c11
                  · exact c14)
                simpa using z
              refine g_tab_out (dflt := 184) (lo := 0) (hi := 5) (offs := #[39, 55, 71, 94, 122, 156]) (len := 39) (tgt := 185) X (by decide +kernel) z21 (by decide) ?_
              refine g_aload_n (n := 0) X (by decide +kernel) 0 rfl ?_
              refine g_getI X (by decide +kernel) fl5_44 ho ?_
              refine g_iconst (n := 1) (x := (1 : Int32)) X (by decide +kernel) (by decide) ?_
              rcases it_E E with ⟨c17, E⟩ | ⟨c17, E⟩
              · refine g_icmp_ne_f (off := 40) (tgt := 230) X (by decide +kernel) (by decide) (fun z => z c17) ?_
                refine g_iload_n (n := 1) X (by decide +kernel) 1 rfl ?_
                refine g_bipush (n := 6) (x := (6 : Int32)) X (by decide +kernel) (by decide) ?_
                refine g_isub X (by decide +kernel) ?_
                obtain ⟨x2_18, ex2_18, E⟩ := lt_E E
                refine s_istore_n (n := 2) (i := 2) X (by decide +kernel) rfl (by decide) ex2_18 (ls_next (by decide) (Or.inr rfl) (ls_next (by decide) (Or.inr rfl) (ls_ins ls_end))) ?_
                refine g_aload_n (n := 0) X (by decide +kernel) 0 rfl ?_
                refine g_getS X (by decide +kernel) fl5_21 ho ?_
                refine g_iload_n (n := 2) X (by decide +kernel) 2 rfl ?_
                refine g_aload_n (n := 0) X (by decide +kernel) 0 rfl ?_
                refine g_getS X (by decide +kernel) fl5_32 ho ?_
                refine g_iconst (n := 0) (x := (0 : Int32)) X (by decide +kernel) (by decide) ?_
                refine g_iald X (by decide +kernel) (ly hK ho fl5_32 rfl) (by decide) ?_
                refine g_iload_n (n := 2) X (by decide +kernel) 2 rfl ?_
                refine g_iconst (n := 2) (x := (2 : Int32)) X (by decide +kernel) (by decide) ?_
                rcases it_E E with ⟨c19, E⟩ | ⟨c19, E⟩
                · refine g_icmp_ne_f (off := 7) (tgt := 218) X (by decide +kernel) (by decide) (fun z => z c19) ?_
                  refine g_iconst (n := -1) (x := (-1 : Int32)) X (by decide +kernel) (by decide) ?_
                  refine g_goto (off := 9) (tgt := 224) X (by decide +kernel) (by decide) ?_
                  refine g_sub [] rfl ?_
                  exact w5_tell_J224 X hK (o + 14) x2_18 (h.1 (o + 21) (0 : Int32).toNatClampNeg) (-1 : Int32) h (ly hK ho fl5_21 rfl) E
                · refine g_icmp_ne_t (off := 7) (tgt := 218) X (by decide +kernel) (by decide) c19 ?_
                  refine g_aload_n (n := 0) X (by decide +kernel) 0 rfl ?_
                  refine g_getS X (by decide +kernel) fl5_32 ho ?_
                  refine g_iconst (n := 1) (x := (1 : Int32)) X (by decide +kernel) (by decide) ?_
                  refine g_iald X (by decide +kernel) (ly hK ho fl5_32 rfl) (by decide) ?_
                  refine g_sub [] rfl ?_
                  exact w5_tell_J224 X hK (o + 14) x2_18 (h.1 (o + 21) (0 : Int32).toNatClampNeg) (h.1 (o + 21) (1 : Int32).toNatClampNeg) h (ly hK ho fl5_21 rfl) E
              · refine g_icmp_ne_t (off := 40) (tgt := 230) X (by decide +kernel) (by decide) c17 ?_
                refine g_aload_n (n := 0) X (by decide +kernel) 0 rfl ?_
                refine g_getS X (by decide +kernel) fl5_28 ho ?_
                refine g_aload_n (n := 0) X (by decide +kernel) 0 rfl ?_
                refine g_getS X (by decide +kernel) fl5_32 ho ?_
                refine g_iconst (n := 0) (x := (0 : Int32)) X (by decide +kernel) (by decide) ?_
                refine g_iald X (by decide +kernel) (ly hK ho fl5_32 rfl) (by decide) ?_
                refine g_iload_n (n := 1) X (by decide +kernel) 1 rfl ?_
                refine g_bipush (n := 11) (x := (11 : Int32)) X (by decide +kernel) (by decide) ?_
                rcases it_E E with ⟨c20, E⟩ | ⟨c20, E⟩
                · refine g_icmp_ne_f (off := 12) (tgt := 255) X (by decide +kernel) (by decide) (fun z => z c20) ?_
                  refine g_aload_n (n := 0) X (by decide +kernel) 0 rfl ?_
                  refine g_getS X (by decide +kernel) fl5_32 ho ?_
                  refine g_iconst (n := 1) (x := (1 : Int32)) X (by decide +kernel) (by decide) ?_
                  refine g_iald X (by decide +kernel) (ly hK ho fl5_32 rfl) (by decide) ?_
                  refine g_goto (off := 4) (tgt := 256) X (by decide +kernel) (by decide) ?_
                  refine g_sub [] rfl ?_
                  exact w5_tell_J256 X hK (o + 18) (h.1 (o + 21) (0 : Int32).toNatClampNeg) (h.1 (o + 21) (1 : Int32).toNatClampNeg) h (ly hK ho fl5_28 rfl) E
                · refine g_icmp_ne_t (off := 12) (tgt := 255) X (by decide +kernel) (by decide) c20 ?_
                  refine g_iconst (n := -1) (x := (-1 : Int32)) X (by decide +kernel) (by decide) ?_
                  refine g_sub [] rfl ?_
                  exact w5_tell_J256 X hK (o + 18) (h.1 (o + 21) (0 : Int32).toNatClampNeg) (-1 : Int32) h (ly hK ho fl5_28 rfl) E
-- Told.put
def f1_put_J54 (K : Ly) (n : Nat)  (x0 : Nat) (x1 : Int32) (x2 : Int32) (h : Hp) : Option Hp :=
    gd (inb x1 3) <|
    gd (inb x1 3) <|
    lt (sI h (x0 + 2) x1.toNatClampNeg (jmax (h.1 (x0 + 2) x1.toNatClampNeg) (x2 + (1 : Int32)))) fun h17 =>
    some h17
def f1_put (K : Ly) (n : Nat) (o : Nat) (a1 : Int32) (a2 : Int32) (a3 : Nat) (h : Hp) : Option Hp :=
    if a1 = 0 then (
    gd (inb a2 2) <|
    ob (h.2.2 (o + 3) a2.toNatClampNeg) K 2 fun o3 =>
    bp (f2_copy K n o3 (a3 + 1) h) fun h5 =>
    f1_put_J54 K n o a1 a2 h5)
    else (
    if a1 = (1 : Int32) then (
    gd (inb a2 2) <|
    ob (h.2.2 (o + 30) a2.toNatClampNeg) K 3 fun o8 =>
    bp (f3_copy K n o8 (a3 + 14) h) fun h10 =>
    f1_put_J54 K n o a1 a2 h10)
    else (
    gd (inb a2 2) <|
    ob (h.2.2 (o + 39) a2.toNatClampNeg) K 4 fun o12 =>
    bp (f4_copy K n o12 (a3 + 18) h) fun h14 =>
    f1_put_J54 K n o a1 a2 h14))
set_option maxHeartbeats 4000000 in
set_option maxRecDepth 20000 in
theorem w1_put_J54 {Γ : CT} {sp : Sp} {K : Ly} {sz n : Nat} {hf : Hp}   (X : Ok Γ sp prog_11_method_3_code Rc1 4 none 3 none sz K hf) (hK : LyOk K) (x0 : Nat) (x1 : Int32) (x2 : Int32) (h : Hp)  (px0 : K x0 = some (.inl 1)) (E : f1_put_J54 K n x0 x1 x2 h = some hf) : Go Γ (0, 0) 54 [(0, .ref x0), (1, .int x1), (2, .int x2)] [] sz K h := by
  unfold f1_put_J54 at E
  refine g_aload_n (n := 0) X (by decide +kernel) 0 rfl ?_
  refine g_getS X (by decide +kernel) fl1_25 px0 ?_
  refine g_iload_n (n := 1) X (by decide +kernel) 1 rfl ?_
  refine g_aload_n (n := 0) X (by decide +kernel) 0 rfl ?_
  refine g_getS X (by decide +kernel) fl1_25 px0 ?_
  refine g_iload_n (n := 1) X (by decide +kernel) 1 rfl ?_
  obtain ⟨c15, E⟩ := gd_E E
  refine g_iald X (by decide +kernel) (ly hK px0 fl1_25 rfl) c15 ?_
  refine g_iload_n (n := 2) X (by decide +kernel) 2 rfl ?_
  refine g_iconst (n := 1) (x := (1 : Int32)) X (by decide +kernel) (by decide) ?_
  refine g_iadd X (by decide +kernel) ?_
  refine g_mmax X (by decide +kernel) ml1_74 (by decide) (Nat.le_of_ble_eq_true rfl) ?_
  obtain ⟨c16, E⟩ := gd_E E
  obtain ⟨h17, eh17, E⟩ := lt_E E
  refine g_iast X (by decide +kernel) (ly hK px0 fl1_25 rfl) c16 eh17 ?_
  obtain rfl := Option.some.inj E
  exact g_return X (by decide +kernel)
set_option maxHeartbeats 4000000 in
set_option maxRecDepth 20000 in
theorem c1_put {sp : Sp} {K : Ly} {sz n : Nat} (hK : LyOk K) (o : Nat) (a1 : Int32) (a2 : Int32) (a3 : Nat) (h : Hp) (ho : K o = some (.inl 1)) (ha3 : K a3 = some (.inl 5)) {hf : Hp} (E : f1_put K n o a1 a2 a3 h = some hf) : Con sp y1_put prog_11_method_3_code 4 none 3 0 0 [.ref o, .int a1, .int a2, .ref a3] sz K h none sz K hf := by
  refine Con.of (by decide) (Nat.le_of_ble_eq_true rfl) (fun Γ X _ => ?_)
  show Go Γ (0, 0) 0 [(0, .ref o), (1, .int a1), (2, .int a2), (3, .ref a3)] [] sz K h
  unfold f1_put at E
  refine g_iload_n (n := 1) X (by decide +kernel) 1 rfl ?_
  rcases it_E E with ⟨c1, E⟩ | ⟨c1, E⟩
  · refine g_if_ne_f (off := 19) (tgt := 20) X (by decide +kernel) (by decide) (fun z => z c1) ?_
    refine g_aload_n (n := 0) X (by decide +kernel) 0 rfl ?_
    refine g_getS X (by decide +kernel) fl1_32 ho ?_
    refine g_iload_n (n := 2) X (by decide +kernel) 2 rfl ?_
    obtain ⟨c2, E⟩ := gd_E E
    obtain ⟨o3, qo3, po3, E⟩ := ob_E E
    refine g_aald (C := "AskedNames$Net") X (by decide +kernel) (ly hK ho fl1_32 rfl) rfl rfl c2 qo3 ?_
    refine g_aload_n (n := 3) X (by decide +kernel) 3 rfl ?_
    refine g_getS X (by decide +kernel) fl1_50 ha3 ?_
    obtain ⟨h5, e4, E⟩ := bp_E E
    refine g_callV0 (st := []) X [.ref (a3 + 1)] (by decide +kernel) ml1_56 po3 rfl rfl (by decide) (Nat.le_of_ble_eq_true rfl) (c2_copy hK o3 (a3 + 1) h po3 (ly hK ha3 fl1_50 rfl) e4) ?_
    refine g_goto (off := 37) (tgt := 54) X (by decide +kernel) (by decide) ?_
    refine g_sub [0, 1, 2] rfl ?_
    exact w1_put_J54 X hK o a1 a2 h5 ho E
  · refine g_if_ne_t (off := 19) (tgt := 20) X (by decide +kernel) (by decide) c1 ?_
    refine g_iload_n (n := 1) X (by decide +kernel) 1 rfl ?_
    refine g_iconst (n := 1) (x := (1 : Int32)) X (by decide +kernel) (by decide) ?_
    rcases it_E E with ⟨c6, E⟩ | ⟨c6, E⟩
    · refine g_icmp_ne_f (off := 19) (tgt := 41) X (by decide +kernel) (by decide) (fun z => z c6) ?_
      refine g_aload_n (n := 0) X (by decide +kernel) 0 rfl ?_
      refine g_getS X (by decide +kernel) fl1_39 ho ?_
      refine g_iload_n (n := 2) X (by decide +kernel) 2 rfl ?_
      obtain ⟨c7, E⟩ := gd_E E
      obtain ⟨o8, qo8, po8, E⟩ := ob_E E
      refine g_aald (C := "AskedNames$Run") X (by decide +kernel) (ly hK ho fl1_39 rfl) rfl rfl c7 qo8 ?_
      refine g_aload_n (n := 3) X (by decide +kernel) 3 rfl ?_
      refine g_getS X (by decide +kernel) fl1_60 ha3 ?_
      obtain ⟨h10, e9, E⟩ := bp_E E
      refine g_callV0 (st := []) X [.ref (a3 + 14)] (by decide +kernel) ml1_64 po8 rfl rfl (by decide) (Nat.le_of_ble_eq_true rfl) (c3_copy hK o8 (a3 + 14) h po8 (ly hK ha3 fl1_60 rfl) e9) ?_
      refine g_goto (off := 16) (tgt := 54) X (by decide +kernel) (by decide) ?_
      refine g_sub [0, 1, 2] rfl ?_
      exact w1_put_J54 X hK o a1 a2 h10 ho E
    · refine g_icmp_ne_t (off := 19) (tgt := 41) X (by decide +kernel) (by decide) c6 ?_
      refine g_aload_n (n := 0) X (by decide +kernel) 0 rfl ?_
      refine g_getS X (by decide +kernel) fl1_46 ho ?_
      refine g_iload_n (n := 2) X (by decide +kernel) 2 rfl ?_
      obtain ⟨c11, E⟩ := gd_E E
      obtain ⟨o12, qo12, po12, E⟩ := ob_E E
      refine g_aald (C := "AskedNames$Log") X (by decide +kernel) (ly hK ho fl1_46 rfl) rfl rfl c11 qo12 ?_
      refine g_aload_n (n := 3) X (by decide +kernel) 3 rfl ?_
      refine g_getS X (by decide +kernel) fl1_67 ha3 ?_
      obtain ⟨h14, e13, E⟩ := bp_E E
      refine g_callV0 (st := []) X [.ref (a3 + 18)] (by decide +kernel) ml1_71 po12 rfl rfl (by decide) (Nat.le_of_ble_eq_true rfl) (c4_copy hK o12 (a3 + 18) h po12 (ly hK ha3 fl1_67 rfl) e13) ?_
      refine g_sub [0, 1, 2] rfl ?_
      exact w1_put_J54 X hK o a1 a2 h14 ho E
-- Told.copy
def f1_copy_L56 (K : Ly) (n : Nat) (x0 : Nat) (x1 : Nat)   : Nat → Int32 → Hp → Option Hp
  | 0, _, _ => none
  | k + 1, x2, h =>
    if (2 : Int32) ≤ x2 then (
    some h)
    else (
    gd (inb x2 2) <|
    ob (h.2.2 (x0 + 3) x2.toNatClampNeg) K 2 fun o8 =>
    gd (inb x2 2) <|
    ob (h.2.2 (x1 + 3) x2.toNatClampNeg) K 2 fun o10 =>
    bp (f2_copy K n o8 o10 h) fun h12 =>
    gd (inb x2 2) <|
    ob (h12.2.2 (x0 + 30) x2.toNatClampNeg) K 3 fun o14 =>
    gd (inb x2 2) <|
    ob (h12.2.2 (x1 + 30) x2.toNatClampNeg) K 3 fun o16 =>
    bp (f3_copy K n o14 o16 h12) fun h18 =>
    gd (inb x2 2) <|
    ob (h18.2.2 (x0 + 39) x2.toNatClampNeg) K 4 fun o20 =>
    gd (inb x2 2) <|
    ob (h18.2.2 (x1 + 39) x2.toNatClampNeg) K 4 fun o22 =>
    bp (f4_copy K n o20 o22 h18) fun h24 =>
    lt (x2 + (1 : Int32)) fun x2_25 =>
    f1_copy_L56 K n x0 x1  k x2_25 h24)
def f1_copy (K : Ly) (n : Nat) (o : Nat) (a1 : Nat) (h : Hp) : Option Hp :=
    lt (cpI h (a1 + 1) (o + 1) 600) fun h1 =>
    lt (cpI h1 (a1 + 2) (o + 2) 3) fun h2 =>
    lt (sI h2 o 1 (h2.1 a1 1)) fun h3 =>
    lt (sI h3 o 2 (h3.1 a1 2)) fun h4 =>
    lt (sI h4 o 3 (h4.1 a1 3)) fun h5 =>
    f1_copy_L56 K n o a1 n (0 : Int32) h5
set_option maxHeartbeats 4000000 in
set_option maxRecDepth 20000 in
theorem w1_copy_L56 {Γ : CT} {sp : Sp} {K : Ly} {sz n : Nat} {hf : Hp}  (X : Ok Γ sp prog_11_method_4_code Rc1 3 none 3 none sz K hf) (hK : LyOk K) (x0 : Nat) (x1 : Nat)  (px0 : K x0 = some (.inl 1)) (px1 : K x1 = some (.inl 1))  : ∀ (k : Nat) (x2 : Int32) (h : Hp), f1_copy_L56 K n x0 x1  k x2 h = some hf → Go Γ (0, 0) 56 [(0, .ref x0), (1, .ref x1), (2, .int x2)] [] sz K h := by
  intro k
  induction k with
  | zero => intro x2 h E; cases E
  | succ k ih =>
    intro x2 h E
    unfold f1_copy_L56 at E
    refine g_iload_n (n := 2) X (by decide +kernel) 2 rfl ?_
    refine g_iconst (n := 2) (x := (2 : Int32)) X (by decide +kernel) (by decide) ?_
    rcases it_E E with ⟨c6, E⟩ | ⟨c6, E⟩
    · refine g_icmp_ge_t (off := 54) (tgt := 112) X (by decide +kernel) (by decide) c6 ?_
      obtain rfl := Option.some.inj E
      exact g_return X (by decide +kernel)
    · refine g_icmp_ge_f (off := 54) (tgt := 112) X (by decide +kernel) (by decide) c6 ?_
      refine g_aload_n (n := 0) X (by decide +kernel) 0 rfl ?_
      refine g_getS X (by decide +kernel) fl1_32 px0 ?_
      refine g_iload_n (n := 2) X (by decide +kernel) 2 rfl ?_
      obtain ⟨c7, E⟩ := gd_E E
      obtain ⟨o8, qo8, po8, E⟩ := ob_E E
      refine g_aald (C := "AskedNames$Net") X (by decide +kernel) (ly hK px0 fl1_32 rfl) rfl rfl c7 qo8 ?_
      refine g_aload_n (n := 1) X (by decide +kernel) 1 rfl ?_
      refine g_getS X (by decide +kernel) fl1_32 px1 ?_
      refine g_iload_n (n := 2) X (by decide +kernel) 2 rfl ?_
      obtain ⟨c9, E⟩ := gd_E E
      obtain ⟨o10, qo10, po10, E⟩ := ob_E E
      refine g_aald (C := "AskedNames$Net") X (by decide +kernel) (ly hK px1 fl1_32 rfl) rfl rfl c9 qo10 ?_
      obtain ⟨h12, e11, E⟩ := bp_E E
      refine g_callV0 (st := []) X [.ref o10] (by decide +kernel) ml1_56 po8 rfl rfl (by decide) (Nat.le_of_ble_eq_true rfl) (c2_copy hK o8 o10 h po8 po10 e11) ?_
      refine g_aload_n (n := 0) X (by decide +kernel) 0 rfl ?_
      refine g_getS X (by decide +kernel) fl1_39 px0 ?_
      refine g_iload_n (n := 2) X (by decide +kernel) 2 rfl ?_
      obtain ⟨c13, E⟩ := gd_E E
      obtain ⟨o14, qo14, po14, E⟩ := ob_E E
      refine g_aald (C := "AskedNames$Run") X (by decide +kernel) (ly hK px0 fl1_39 rfl) rfl rfl c13 qo14 ?_
      refine g_aload_n (n := 1) X (by decide +kernel) 1 rfl ?_
      refine g_getS X (by decide +kernel) fl1_39 px1 ?_
      refine g_iload_n (n := 2) X (by decide +kernel) 2 rfl ?_
      obtain ⟨c15, E⟩ := gd_E E
      obtain ⟨o16, qo16, po16, E⟩ := ob_E E
      refine g_aald (C := "AskedNames$Run") X (by decide +kernel) (ly hK px1 fl1_39 rfl) rfl rfl c15 qo16 ?_
      obtain ⟨h18, e17, E⟩ := bp_E E
      refine g_callV0 (st := []) X [.ref o16] (by decide +kernel) ml1_64 po14 rfl rfl (by decide) (Nat.le_of_ble_eq_true rfl) (c3_copy hK o14 o16 h12 po14 po16 e17) ?_
      refine g_aload_n (n := 0) X (by decide +kernel) 0 rfl ?_
      refine g_getS X (by decide +kernel) fl1_46 px0 ?_
      refine g_iload_n (n := 2) X (by decide +kernel) 2 rfl ?_
      obtain ⟨c19, E⟩ := gd_E E
      obtain ⟨o20, qo20, po20, E⟩ := ob_E E
      refine g_aald (C := "AskedNames$Log") X (by decide +kernel) (ly hK px0 fl1_46 rfl) rfl rfl c19 qo20 ?_
      refine g_aload_n (n := 1) X (by decide +kernel) 1 rfl ?_
      refine g_getS X (by decide +kernel) fl1_46 px1 ?_
      refine g_iload_n (n := 2) X (by decide +kernel) 2 rfl ?_
      obtain ⟨c21, E⟩ := gd_E E
      obtain ⟨o22, qo22, po22, E⟩ := ob_E E
      refine g_aald (C := "AskedNames$Log") X (by decide +kernel) (ly hK px1 fl1_46 rfl) rfl rfl c21 qo22 ?_
      obtain ⟨h24, e23, E⟩ := bp_E E
      refine g_callV0 (st := []) X [.ref o22] (by decide +kernel) ml1_71 po20 rfl rfl (by decide) (Nat.le_of_ble_eq_true rfl) (c4_copy hK o20 o22 h18 po20 po22 e23) ?_
      obtain ⟨x2_25, ex2_25, E⟩ := lt_E E
      refine s_iinc (i := 2) (n := 1) (y := x2_25) X (by decide +kernel) 2 rfl (by decide) ex2_25 (ls_next (by decide) (Or.inr rfl) (ls_next (by decide) (Or.inr rfl) (ls_here ls_end))) ?_
      refine g_goto (off := -53) (tgt := 56) X (by decide +kernel) (by decide) ?_
      exact ih x2_25 h24  E
set_option maxHeartbeats 4000000 in
set_option maxRecDepth 20000 in
theorem c1_copy {sp : Sp} {K : Ly} {sz n : Nat} (hK : LyOk K) (o : Nat) (a1 : Nat) (h : Hp) (ho : K o = some (.inl 1)) (ha1 : K a1 = some (.inl 1)) {hf : Hp} (E : f1_copy K n o a1 h = some hf) : Con sp y1_copy prog_11_method_4_code 3 none 3 0 0 [.ref o, .ref a1] sz K h none sz K hf := by
  refine Con.of (by decide) (Nat.le_of_ble_eq_true rfl) (fun Γ X _ => ?_)
  show Go Γ (0, 0) 0 [(0, .ref o), (1, .ref a1)] [] sz K h
  unfold f1_copy at E
  refine g_aload_n (n := 1) X (by decide +kernel) 1 rfl ?_
  refine g_getS X (by decide +kernel) fl1_9 ha1 ?_
  refine g_iconst (n := 0) (x := (0 : Int32)) X (by decide +kernel) (by decide) ?_
  refine g_aload_n (n := 0) X (by decide +kernel) 0 rfl ?_
  refine g_getS X (by decide +kernel) fl1_9 ho ?_
  refine g_iconst (n := 0) (x := (0 : Int32)) X (by decide +kernel) (by decide) ?_
  refine g_sipush (n := 600) (x := (600 : Int32)) X (by decide +kernel) (by decide) ?_
  obtain ⟨h1, eh1, E⟩ := lt_E E
  refine g_acopy (idx := 80) X (by decide +kernel) (in_c5 188 rfl rfl) (by decide) (Nat.le_of_ble_eq_true rfl) (by decide) (ly hK ha1 fl1_9 rfl) (ly hK ho fl1_9 rfl) (by decide) (by decide) eh1 ?_
  refine g_aload_n (n := 1) X (by decide +kernel) 1 rfl ?_
  refine g_getS X (by decide +kernel) fl1_25 ha1 ?_
  refine g_iconst (n := 0) (x := (0 : Int32)) X (by decide +kernel) (by decide) ?_
  refine g_aload_n (n := 0) X (by decide +kernel) 0 rfl ?_
  refine g_getS X (by decide +kernel) fl1_25 ho ?_
  refine g_iconst (n := 0) (x := (0 : Int32)) X (by decide +kernel) (by decide) ?_
  refine g_iconst (n := 3) (x := (3 : Int32)) X (by decide +kernel) (by decide) ?_
  obtain ⟨h2, eh2, E⟩ := lt_E E
  refine g_acopy (idx := 80) X (by decide +kernel) (in_c5 188 rfl rfl) (by decide) (Nat.le_of_ble_eq_true rfl) (by decide) (ly hK ha1 fl1_25 rfl) (ly hK ho fl1_25 rfl) (by decide) (by decide) eh2 ?_
  refine g_aload_n (n := 0) X (by decide +kernel) 0 rfl ?_
  refine g_aload_n (n := 1) X (by decide +kernel) 1 rfl ?_
  refine g_getI X (by decide +kernel) fl1_15 ha1 ?_
  obtain ⟨h3, eh3, E⟩ := lt_E E
  refine g_putI X (by decide +kernel) fp1_15 ho eh3 ?_
  refine g_aload_n (n := 0) X (by decide +kernel) 0 rfl ?_
  refine g_aload_n (n := 1) X (by decide +kernel) 1 rfl ?_
  refine g_getI X (by decide +kernel) fl1_19 ha1 ?_
  obtain ⟨h4, eh4, E⟩ := lt_E E
  refine g_putI X (by decide +kernel) fp1_19 ho eh4 ?_
  refine g_aload_n (n := 0) X (by decide +kernel) 0 rfl ?_
  refine g_aload_n (n := 1) X (by decide +kernel) 1 rfl ?_
  refine g_getI X (by decide +kernel) fl1_22 ha1 ?_
  obtain ⟨h5, eh5, E⟩ := lt_E E
  refine g_putI X (by decide +kernel) fp1_22 ho eh5 ?_
  refine g_iconst (n := 0) (x := (0 : Int32)) X (by decide +kernel) (by decide) ?_
  refine s_istore_n (n := 2) (i := 2) X (by decide +kernel) rfl (by decide) rfl (ls_next (by decide) (Or.inr rfl) (ls_next (by decide) (Or.inr rfl) (ls_ins ls_end))) ?_
  exact w1_copy_L56 X hK o a1 ho ha1 n (0 : Int32) h5 E
