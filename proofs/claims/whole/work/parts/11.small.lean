-- Run.add
def f3_add (K : Ly) (n : Nat) (o : Nat) (a1 : Int32) (a2 : Int32) (a3 : Int32) (h : Hp) : Option Hp :=
    if (40 : Int32) ≤ (h.1 o 0) then (
    some h)
    else (
    gd (inb (h.1 o 0) 40) <|
    lt (sI h (o + 1) (h.1 o 0).toNatClampNeg a1) fun h3 =>
    gd (inb (h3.1 o 0) 40) <|
    lt (sI h3 (o + 2) (h3.1 o 0).toNatClampNeg a2) fun h5 =>
    gd (inb (h5.1 o 0) 40) <|
    lt (sI h5 (o + 3) (h5.1 o 0).toNatClampNeg a3) fun h7 =>
    lt (sI h7 o 0 ((h7.1 o 0) + (1 : Int32))) fun h8 =>
    some h8)
set_option maxHeartbeats 4000000 in
set_option maxRecDepth 20000 in
theorem c3_add {sp : Sp} {K : Ly} {sz n : Nat} (hK : LyOk K) (o : Nat) (a1 : Int32) (a2 : Int32) (a3 : Int32) (h : Hp) (ho : K o = some (.inl 3)) {hf : Hp} (E : f3_add K n o a1 a2 a3 h = some hf) : Con sp y3_add prog_9_method_3_code 4 none 1 0 0 [.ref o, .int a1, .int a2, .int a3] sz K h none sz K hf := by
  refine Con.of (by decide) (Nat.le_of_ble_eq_true rfl) (fun Γ X _ => ?_)
  show Go Γ (0, 0) 0 [(0, .ref o), (1, .int a1), (2, .int a2), (3, .int a3)] [] sz K h
  unfold f3_add at E
  refine g_aload_n (n := 0) X (by decide +kernel) 0 rfl ?_
  refine g_getI X (by decide +kernel) fl3_9 ho ?_
  refine g_bipush (n := 40) (x := (40 : Int32)) X (by decide +kernel) (by decide) ?_
  rcases it_E E with ⟨c1, E⟩ | ⟨c1, E⟩
  · refine g_icmp_ge_t (off := 43) (tgt := 49) X (by decide +kernel) (by decide) c1 ?_
    obtain rfl := Option.some.inj E
    exact g_return X (by decide +kernel)
  · refine g_icmp_ge_f (off := 43) (tgt := 49) X (by decide +kernel) (by decide) c1 ?_
    refine g_aload_n (n := 0) X (by decide +kernel) 0 rfl ?_
    refine g_getS X (by decide +kernel) fl3_15 ho ?_
    refine g_aload_n (n := 0) X (by decide +kernel) 0 rfl ?_
    refine g_getI X (by decide +kernel) fl3_9 ho ?_
    refine g_iload_n (n := 1) X (by decide +kernel) 1 rfl ?_
    obtain ⟨c2, E⟩ := gd_E E
    obtain ⟨h3, eh3, E⟩ := lt_E E
    refine g_iast X (by decide +kernel) (ly hK ho fl3_15 rfl) c2 eh3 ?_
    refine g_aload_n (n := 0) X (by decide +kernel) 0 rfl ?_
    refine g_getS X (by decide +kernel) fl3_19 ho ?_
    refine g_aload_n (n := 0) X (by decide +kernel) 0 rfl ?_
    refine g_getI X (by decide +kernel) fl3_9 ho ?_
    refine g_iload_n (n := 2) X (by decide +kernel) 2 rfl ?_
    obtain ⟨c4, E⟩ := gd_E E
    obtain ⟨h5, eh5, E⟩ := lt_E E
    refine g_iast X (by decide +kernel) (ly hK ho fl3_19 rfl) c4 eh5 ?_
    refine g_aload_n (n := 0) X (by decide +kernel) 0 rfl ?_
    refine g_getS X (by decide +kernel) fl3_22 ho ?_
    refine g_aload_n (n := 0) X (by decide +kernel) 0 rfl ?_
    refine g_getI X (by decide +kernel) fl3_9 ho ?_
    refine g_iload_n (n := 3) X (by decide +kernel) 3 rfl ?_
    obtain ⟨c6, E⟩ := gd_E E
    obtain ⟨h7, eh7, E⟩ := lt_E E
    refine g_iast X (by decide +kernel) (ly hK ho fl3_22 rfl) c6 eh7 ?_
    refine g_aload_n (n := 0) X (by decide +kernel) 0 rfl ?_
    refine g_dup X (by decide +kernel) rfl ?_
    refine g_getI X (by decide +kernel) fl3_9 ho ?_
    refine g_iconst (n := 1) (x := (1 : Int32)) X (by decide +kernel) (by decide) ?_
    refine g_iadd X (by decide +kernel) ?_
    obtain ⟨h8, eh8, E⟩ := lt_E E
    refine g_putI X (by decide +kernel) fp3_9 ho eh8 ?_
    obtain rfl := Option.some.inj E
    exact g_return X (by decide +kernel)
-- Log.add
def f4_add (K : Ly) (n : Nat) (o : Nat) (a1 : Int32) (a2 : Int32) (h : Hp) : Option Hp :=
    if (8 : Int32) ≤ (h.1 o 0) then (
    some h)
    else (
    gd (inb (h.1 o 0) 8) <|
    lt (sI h (o + 1) (h.1 o 0).toNatClampNeg a1) fun h3 =>
    gd (inb (h3.1 o 0) 8) <|
    lt (sI h3 (o + 2) (h3.1 o 0).toNatClampNeg a2) fun h5 =>
    lt (sI h5 o 0 ((h5.1 o 0) + (1 : Int32))) fun h6 =>
    some h6)
set_option maxHeartbeats 4000000 in
set_option maxRecDepth 20000 in
theorem c4_add {sp : Sp} {K : Ly} {sz n : Nat} (hK : LyOk K) (o : Nat) (a1 : Int32) (a2 : Int32) (h : Hp) (ho : K o = some (.inl 4)) {hf : Hp} (E : f4_add K n o a1 a2 h = some hf) : Con sp y4_add prog_5_method_3_code 3 none 1 0 0 [.ref o, .int a1, .int a2] sz K h none sz K hf := by
  refine Con.of (by decide) (Nat.le_of_ble_eq_true rfl) (fun Γ X _ => ?_)
  show Go Γ (0, 0) 0 [(0, .ref o), (1, .int a1), (2, .int a2)] [] sz K h
  unfold f4_add at E
  refine g_aload_n (n := 0) X (by decide +kernel) 0 rfl ?_
  refine g_getI X (by decide +kernel) fl4_9 ho ?_
  refine g_bipush (n := 8) (x := (8 : Int32)) X (by decide +kernel) (by decide) ?_
  rcases it_E E with ⟨c1, E⟩ | ⟨c1, E⟩
  · refine g_icmp_ge_t (off := 33) (tgt := 39) X (by decide +kernel) (by decide) c1 ?_
    obtain rfl := Option.some.inj E
    exact g_return X (by decide +kernel)
  · refine g_icmp_ge_f (off := 33) (tgt := 39) X (by decide +kernel) (by decide) c1 ?_
    refine g_aload_n (n := 0) X (by decide +kernel) 0 rfl ?_
    refine g_getS X (by decide +kernel) fl4_15 ho ?_
    refine g_aload_n (n := 0) X (by decide +kernel) 0 rfl ?_
    refine g_getI X (by decide +kernel) fl4_9 ho ?_
    refine g_iload_n (n := 1) X (by decide +kernel) 1 rfl ?_
    obtain ⟨c2, E⟩ := gd_E E
    obtain ⟨h3, eh3, E⟩ := lt_E E
    refine g_iast X (by decide +kernel) (ly hK ho fl4_15 rfl) c2 eh3 ?_
    refine g_aload_n (n := 0) X (by decide +kernel) 0 rfl ?_
    refine g_getS X (by decide +kernel) fl4_19 ho ?_
    refine g_aload_n (n := 0) X (by decide +kernel) 0 rfl ?_
    refine g_getI X (by decide +kernel) fl4_9 ho ?_
    refine g_iload_n (n := 2) X (by decide +kernel) 2 rfl ?_
    obtain ⟨c4, E⟩ := gd_E E
    obtain ⟨h5, eh5, E⟩ := lt_E E
    refine g_iast X (by decide +kernel) (ly hK ho fl4_19 rfl) c4 eh5 ?_
    refine g_aload_n (n := 0) X (by decide +kernel) 0 rfl ?_
    refine g_dup X (by decide +kernel) rfl ?_
    refine g_getI X (by decide +kernel) fl4_9 ho ?_
    refine g_iconst (n := 1) (x := (1 : Int32)) X (by decide +kernel) (by decide) ?_
    refine g_iadd X (by decide +kernel) ?_
    obtain ⟨h6, eh6, E⟩ := lt_E E
    refine g_putI X (by decide +kernel) fp4_9 ho eh6 ?_
    obtain rfl := Option.some.inj E
    exact g_return X (by decide +kernel)
-- Run.copy
def f3_copy (K : Ly) (n : Nat) (o : Nat) (a1 : Nat) (h : Hp) : Option Hp :=
    lt (sI h o 0 (h.1 a1 0)) fun h1 =>
    lt (cpI h1 (a1 + 1) (o + 1) 40) fun h2 =>
    lt (cpI h2 (a1 + 2) (o + 2) 40) fun h3 =>
    lt (cpI h3 (a1 + 3) (o + 3) 40) fun h4 =>
    some h4
set_option maxHeartbeats 4000000 in
set_option maxRecDepth 20000 in
theorem c3_copy {sp : Sp} {K : Ly} {sz n : Nat} (hK : LyOk K) (o : Nat) (a1 : Nat) (h : Hp) (ho : K o = some (.inl 3)) (ha1 : K a1 = some (.inl 3)) {hf : Hp} (E : f3_copy K n o a1 h = some hf) : Con sp y3_copy prog_9_method_2_code 2 none 2 0 0 [.ref o, .ref a1] sz K h none sz K hf := by
  refine Con.of (by decide) (Nat.le_of_ble_eq_true rfl) (fun Γ X _ => ?_)
  show Go Γ (0, 0) 0 [(0, .ref o), (1, .ref a1)] [] sz K h
  unfold f3_copy at E
  refine g_aload_n (n := 0) X (by decide +kernel) 0 rfl ?_
  refine g_aload_n (n := 1) X (by decide +kernel) 1 rfl ?_
  refine g_getI X (by decide +kernel) fl3_9 ha1 ?_
  obtain ⟨h1, eh1, E⟩ := lt_E E
  refine g_putI X (by decide +kernel) fp3_9 ho eh1 ?_
  refine g_aload_n (n := 1) X (by decide +kernel) 1 rfl ?_
  refine g_getS X (by decide +kernel) fl3_15 ha1 ?_
  refine g_iconst (n := 0) (x := (0 : Int32)) X (by decide +kernel) (by decide) ?_
  refine g_aload_n (n := 0) X (by decide +kernel) 0 rfl ?_
  refine g_getS X (by decide +kernel) fl3_15 ho ?_
  refine g_iconst (n := 0) (x := (0 : Int32)) X (by decide +kernel) (by decide) ?_
  refine g_bipush (n := 40) (x := (40 : Int32)) X (by decide +kernel) (by decide) ?_
  obtain ⟨h2, eh2, E⟩ := lt_E E
  refine g_acopy (idx := 25) X (by decide +kernel) (in_c4 20 rfl rfl) (by decide) (Nat.le_of_ble_eq_true rfl) (by decide) (ly hK ha1 fl3_15 rfl) (ly hK ho fl3_15 rfl) (by decide) (by decide) eh2 ?_
  refine g_aload_n (n := 1) X (by decide +kernel) 1 rfl ?_
  refine g_getS X (by decide +kernel) fl3_19 ha1 ?_
  refine g_iconst (n := 0) (x := (0 : Int32)) X (by decide +kernel) (by decide) ?_
  refine g_aload_n (n := 0) X (by decide +kernel) 0 rfl ?_
  refine g_getS X (by decide +kernel) fl3_19 ho ?_
  refine g_iconst (n := 0) (x := (0 : Int32)) X (by decide +kernel) (by decide) ?_
  refine g_bipush (n := 40) (x := (40 : Int32)) X (by decide +kernel) (by decide) ?_
  obtain ⟨h3, eh3, E⟩ := lt_E E
  refine g_acopy (idx := 25) X (by decide +kernel) (in_c4 20 rfl rfl) (by decide) (Nat.le_of_ble_eq_true rfl) (by decide) (ly hK ha1 fl3_19 rfl) (ly hK ho fl3_19 rfl) (by decide) (by decide) eh3 ?_
  refine g_aload_n (n := 1) X (by decide +kernel) 1 rfl ?_
  refine g_getS X (by decide +kernel) fl3_22 ha1 ?_
  refine g_iconst (n := 0) (x := (0 : Int32)) X (by decide +kernel) (by decide) ?_
  refine g_aload_n (n := 0) X (by decide +kernel) 0 rfl ?_
  refine g_getS X (by decide +kernel) fl3_22 ho ?_
  refine g_iconst (n := 0) (x := (0 : Int32)) X (by decide +kernel) (by decide) ?_
  refine g_bipush (n := 40) (x := (40 : Int32)) X (by decide +kernel) (by decide) ?_
  obtain ⟨h4, eh4, E⟩ := lt_E E
  refine g_acopy (idx := 25) X (by decide +kernel) (in_c4 20 rfl rfl) (by decide) (Nat.le_of_ble_eq_true rfl) (by decide) (ly hK ha1 fl3_22 rfl) (ly hK ho fl3_22 rfl) (by decide) (by decide) eh4 ?_
  obtain rfl := Option.some.inj E
  exact g_return X (by decide +kernel)
-- Log.copy
def f4_copy (K : Ly) (n : Nat) (o : Nat) (a1 : Nat) (h : Hp) : Option Hp :=
    lt (sI h o 0 (h.1 a1 0)) fun h1 =>
    lt (cpI h1 (a1 + 1) (o + 1) 8) fun h2 =>
    lt (cpI h2 (a1 + 2) (o + 2) 8) fun h3 =>
    some h3
set_option maxHeartbeats 4000000 in
set_option maxRecDepth 20000 in
theorem c4_copy {sp : Sp} {K : Ly} {sz n : Nat} (hK : LyOk K) (o : Nat) (a1 : Nat) (h : Hp) (ho : K o = some (.inl 4)) (ha1 : K a1 = some (.inl 4)) {hf : Hp} (E : f4_copy K n o a1 h = some hf) : Con sp y4_copy prog_5_method_2_code 2 none 2 0 0 [.ref o, .ref a1] sz K h none sz K hf := by
  refine Con.of (by decide) (Nat.le_of_ble_eq_true rfl) (fun Γ X _ => ?_)
  show Go Γ (0, 0) 0 [(0, .ref o), (1, .ref a1)] [] sz K h
  unfold f4_copy at E
  refine g_aload_n (n := 0) X (by decide +kernel) 0 rfl ?_
  refine g_aload_n (n := 1) X (by decide +kernel) 1 rfl ?_
  refine g_getI X (by decide +kernel) fl4_9 ha1 ?_
  obtain ⟨h1, eh1, E⟩ := lt_E E
  refine g_putI X (by decide +kernel) fp4_9 ho eh1 ?_
  refine g_aload_n (n := 1) X (by decide +kernel) 1 rfl ?_
  refine g_getS X (by decide +kernel) fl4_15 ha1 ?_
  refine g_iconst (n := 0) (x := (0 : Int32)) X (by decide +kernel) (by decide) ?_
  refine g_aload_n (n := 0) X (by decide +kernel) 0 rfl ?_
  refine g_getS X (by decide +kernel) fl4_15 ho ?_
  refine g_iconst (n := 0) (x := (0 : Int32)) X (by decide +kernel) (by decide) ?_
  refine g_bipush (n := 8) (x := (8 : Int32)) X (by decide +kernel) (by decide) ?_
  obtain ⟨h2, eh2, E⟩ := lt_E E
  refine g_acopy (idx := 22) X (by decide +kernel) (in_c4 25 rfl rfl) (by decide) (Nat.le_of_ble_eq_true rfl) (by decide) (ly hK ha1 fl4_15 rfl) (ly hK ho fl4_15 rfl) (by decide) (by decide) eh2 ?_
  refine g_aload_n (n := 1) X (by decide +kernel) 1 rfl ?_
  refine g_getS X (by decide +kernel) fl4_19 ha1 ?_
  refine g_iconst (n := 0) (x := (0 : Int32)) X (by decide +kernel) (by decide) ?_
  refine g_aload_n (n := 0) X (by decide +kernel) 0 rfl ?_
  refine g_getS X (by decide +kernel) fl4_19 ho ?_
  refine g_iconst (n := 0) (x := (0 : Int32)) X (by decide +kernel) (by decide) ?_
  refine g_bipush (n := 8) (x := (8 : Int32)) X (by decide +kernel) (by decide) ?_
  obtain ⟨h3, eh3, E⟩ := lt_E E
  refine g_acopy (idx := 22) X (by decide +kernel) (in_c4 25 rfl rfl) (by decide) (Nat.le_of_ble_eq_true rfl) (by decide) (ly hK ha1 fl4_19 rfl) (ly hK ho fl4_19 rfl) (by decide) (by decide) eh3 ?_
  obtain rfl := Option.some.inj E
  exact g_return X (by decide +kernel)
-- Fate.begin
def f9_begin (K : Ly) (n : Nat) (o : Nat) (a1 : Int32) (h : Hp) : Option Hp :=
    lt (sI h o 0 (0 : Int32)) fun h1 =>
    lt (sI h1 o 1 a1) fun h2 =>
    lt (sI h2 o 2 (-1 : Int32)) fun h3 =>
    lt (sI h3 o 3 (-1 : Int32)) fun h4 =>
    lt (sI h4 o 4 (-1 : Int32)) fun h5 =>
    lt (sI h5 o 5 (-1 : Int32)) fun h6 =>
    lt (sI h6 o 6 (-1 : Int32)) fun h7 =>
    lt (sI h7 o 7 (-1 : Int32)) fun h8 =>
    some h8
set_option maxHeartbeats 4000000 in
set_option maxRecDepth 20000 in
theorem c9_begin {sp : Sp} {K : Ly} {sz n : Nat} (hK : LyOk K) (o : Nat) (a1 : Int32) (h : Hp) (ho : K o = some (.inl 9)) {hf : Hp} (E : f9_begin K n o a1 h = some hf) : Con sp y9_begin prog_4_method_2_code 2 none 1 0 0 [.ref o, .int a1] sz K h none sz K hf := by
  refine Con.of (by decide) (Nat.le_of_ble_eq_true rfl) (fun Γ X _ => ?_)
  show Go Γ (0, 0) 0 [(0, .ref o), (1, .int a1)] [] sz K h
  unfold f9_begin at E
  refine g_aload_n (n := 0) X (by decide +kernel) 0 rfl ?_
  refine g_iconst (n := 0) (x := (0 : Int32)) X (by decide +kernel) (by decide) ?_
  obtain ⟨h1, eh1, E⟩ := lt_E E
  refine g_putI X (by decide +kernel) fp9_9 ho eh1 ?_
  refine g_aload_n (n := 0) X (by decide +kernel) 0 rfl ?_
  refine g_iload_n (n := 1) X (by decide +kernel) 1 rfl ?_
  obtain ⟨h2, eh2, E⟩ := lt_E E
  refine g_putI X (by decide +kernel) fp9_15 ho eh2 ?_
  refine g_aload_n (n := 0) X (by decide +kernel) 0 rfl ?_
  refine g_iconst (n := -1) (x := (-1 : Int32)) X (by decide +kernel) (by decide) ?_
  obtain ⟨h3, eh3, E⟩ := lt_E E
  refine g_putI X (by decide +kernel) fp9_18 ho eh3 ?_
  refine g_aload_n (n := 0) X (by decide +kernel) 0 rfl ?_
  refine g_iconst (n := -1) (x := (-1 : Int32)) X (by decide +kernel) (by decide) ?_
  obtain ⟨h4, eh4, E⟩ := lt_E E
  refine g_putI X (by decide +kernel) fp9_21 ho eh4 ?_
  refine g_aload_n (n := 0) X (by decide +kernel) 0 rfl ?_
  refine g_iconst (n := -1) (x := (-1 : Int32)) X (by decide +kernel) (by decide) ?_
  obtain ⟨h5, eh5, E⟩ := lt_E E
  refine g_putI X (by decide +kernel) fp9_24 ho eh5 ?_
  refine g_aload_n (n := 0) X (by decide +kernel) 0 rfl ?_
  refine g_iconst (n := -1) (x := (-1 : Int32)) X (by decide +kernel) (by decide) ?_
  obtain ⟨h6, eh6, E⟩ := lt_E E
  refine g_putI X (by decide +kernel) fp9_27 ho eh6 ?_
  refine g_aload_n (n := 0) X (by decide +kernel) 0 rfl ?_
  refine g_iconst (n := -1) (x := (-1 : Int32)) X (by decide +kernel) (by decide) ?_
  obtain ⟨h7, eh7, E⟩ := lt_E E
  refine g_putI X (by decide +kernel) fp9_30 ho eh7 ?_
  refine g_aload_n (n := 0) X (by decide +kernel) 0 rfl ?_
  refine g_iconst (n := -1) (x := (-1 : Int32)) X (by decide +kernel) (by decide) ?_
  obtain ⟨h8, eh8, E⟩ := lt_E E
  refine g_putI X (by decide +kernel) fp9_33 ho eh8 ?_
  obtain rfl := Option.some.inj E
  exact g_return X (by decide +kernel)
-- Store.find
def f8_find_L2 (K : Ly) (n : Nat) (x0 : Nat) (x1 : Int32) (h : Hp)  : Nat → Int32 → Option (Int32)
  | 0, _ => none
  | k + 1, x2 =>
    if (h.1 x0 0) ≤ x2 then (
    some (-1 : Int32))
    else (
    gd (inb x2 4) <|
    if (h.1 (x0 + 1) x2.toNatClampNeg) = x1 then (
    some x2)
    else (
    lt (x2 + (1 : Int32)) fun x2_4 =>
    f8_find_L2 K n x0 x1 h  k x2_4))
def f8_find (K : Ly) (n : Nat) (o : Nat) (a1 : Int32) (h : Hp) : Option (Int32) :=
    f8_find_L2 K n o a1 h n (0 : Int32)
set_option maxHeartbeats 4000000 in
set_option maxRecDepth 20000 in
theorem w8_find_L2 {Γ : CT} {sp : Sp} {K : Ly} {sz n : Nat} {v : Int32} {h : Hp}  (X : Ok Γ sp prog_10_method_2_code Rc8 3 (some (.int)) 1 (some (.int v)) sz K h) (hK : LyOk K) (x0 : Nat) (x1 : Int32)  (px0 : K x0 = some (.inl 8))  : ∀ (k : Nat) (x2 : Int32), f8_find_L2 K n x0 x1 h  k x2 = some v → Go Γ (0, 0) 2 [(0, .ref x0), (1, .int x1), (2, .int x2)] [] sz K h := by
  intro k
  induction k with
  | zero => intro x2 E; cases E
  | succ k ih =>
    intro x2 E
    unfold f8_find_L2 at E
    refine g_iload_n (n := 2) X (by decide +kernel) 2 rfl ?_
    refine g_aload_n (n := 0) X (by decide +kernel) 0 rfl ?_
    refine g_getI X (by decide +kernel) fl8_9 px0 ?_
    rcases it_E E with ⟨c1, E⟩ | ⟨c1, E⟩
    · refine g_icmp_ge_t (off := 21) (tgt := 28) X (by decide +kernel) (by decide) c1 ?_
      refine g_iconst (n := -1) (x := (-1 : Int32)) X (by decide +kernel) (by decide) ?_
      obtain rfl := Option.some.inj E
      exact g_ireturn X (by decide +kernel)
    · refine g_icmp_ge_f (off := 21) (tgt := 28) X (by decide +kernel) (by decide) c1 ?_
      refine g_aload_n (n := 0) X (by decide +kernel) 0 rfl ?_
      refine g_getS X (by decide +kernel) fl8_15 px0 ?_
      refine g_iload_n (n := 2) X (by decide +kernel) 2 rfl ?_
      obtain ⟨c2, E⟩ := gd_E E
      refine g_iald X (by decide +kernel) (ly hK px0 fl8_15 rfl) c2 ?_
      refine g_iload_n (n := 1) X (by decide +kernel) 1 rfl ?_
      rcases it_E E with ⟨c3, E⟩ | ⟨c3, E⟩
      · refine g_icmp_ne_f (off := 5) (tgt := 22) X (by decide +kernel) (by decide) (fun z => z c3) ?_
        refine g_iload_n (n := 2) X (by decide +kernel) 2 rfl ?_
        obtain rfl := Option.some.inj E
        exact g_ireturn X (by decide +kernel)
      · refine g_icmp_ne_t (off := 5) (tgt := 22) X (by decide +kernel) (by decide) c3 ?_
        obtain ⟨x2_4, ex2_4, E⟩ := lt_E E
        refine s_iinc (i := 2) (n := 1) (y := x2_4) X (by decide +kernel) 2 rfl (by decide) ex2_4 (ls_next (by decide) (Or.inr rfl) (ls_next (by decide) (Or.inr rfl) (ls_here ls_end))) ?_
        refine g_goto (off := -23) (tgt := 2) X (by decide +kernel) (by decide) ?_
        exact ih x2_4  E
set_option maxHeartbeats 4000000 in
set_option maxRecDepth 20000 in
theorem c8_find {sp : Sp} {K : Ly} {sz n : Nat} (hK : LyOk K) (o : Nat) (a1 : Int32) (h : Hp) (ho : K o = some (.inl 8)) {v : Int32} (E : f8_find K n o a1 h = some v) : Con sp y8_find prog_10_method_2_code 3 (some (.int)) 1 0 0 [.ref o, .int a1] sz K h (some (.int v)) sz K h := by
  refine Con.of (by decide) (Nat.le_of_ble_eq_true rfl) (fun Γ X _ => ?_)
  show Go Γ (0, 0) 0 [(0, .ref o), (1, .int a1)] [] sz K h
  unfold f8_find at E
  refine g_iconst (n := 0) (x := (0 : Int32)) X (by decide +kernel) (by decide) ?_
  refine s_istore_n (n := 2) (i := 2) X (by decide +kernel) rfl (by decide) rfl (ls_next (by decide) (Or.inr rfl) (ls_next (by decide) (Or.inr rfl) (ls_ins ls_end))) ?_
  exact w8_find_L2 X hK o a1 ho n (0 : Int32) E
-- Message.copy
def f7_copy (K : Ly) (n : Nat) (o : Nat) (a1 : Nat) (h : Hp) : Option Hp :=
    lt (sI h o 0 (h.1 a1 0)) fun h1 =>
    lt (sI h1 o 1 (h1.1 a1 1)) fun h2 =>
    lt (sI h2 o 2 (h2.1 a1 2)) fun h3 =>
    lt (sI h3 o 3 (h3.1 a1 3)) fun h4 =>
    lt (sI h4 o 4 (h4.1 a1 4)) fun h5 =>
    lt (sI h5 o 5 (h5.1 a1 5)) fun h6 =>
    lt (sI h6 o 6 (h6.1 a1 6)) fun h7 =>
    lt (sI h7 o 7 (h7.1 a1 7)) fun h8 =>
    lt (sI h8 o 8 (h8.1 a1 8)) fun h9 =>
    lt (sI h9 o 9 (h9.1 a1 9)) fun h10 =>
    lt (sI h10 o 10 (h10.1 a1 10)) fun h11 =>
    lt (sI h11 o 11 (h11.1 a1 11)) fun h12 =>
    lt (sI h12 o 12 (h12.1 a1 12)) fun h13 =>
    lt (sI h13 o 13 (h13.1 a1 13)) fun h14 =>
    some h14
set_option maxHeartbeats 4000000 in
set_option maxRecDepth 20000 in
theorem c7_copy {sp : Sp} {K : Ly} {sz n : Nat} (hK : LyOk K) (o : Nat) (a1 : Nat) (h : Hp) (ho : K o = some (.inl 7)) (ha1 : K a1 = some (.inl 7)) {hf : Hp} (E : f7_copy K n o a1 h = some hf) : Con sp y7_copy prog_6_method_2_code 2 none 1 0 0 [.ref o, .ref a1] sz K h none sz K hf := by
  refine Con.of (by decide) (Nat.le_of_ble_eq_true rfl) (fun Γ X _ => ?_)
  show Go Γ (0, 0) 0 [(0, .ref o), (1, .ref a1)] [] sz K h
  unfold f7_copy at E
  refine g_aload_n (n := 0) X (by decide +kernel) 0 rfl ?_
  refine g_aload_n (n := 1) X (by decide +kernel) 1 rfl ?_
  refine g_getI X (by decide +kernel) fl7_9 ha1 ?_
  obtain ⟨h1, eh1, E⟩ := lt_E E
  refine g_putI X (by decide +kernel) fp7_9 ho eh1 ?_
  refine g_aload_n (n := 0) X (by decide +kernel) 0 rfl ?_
  refine g_aload_n (n := 1) X (by decide +kernel) 1 rfl ?_
  refine g_getI X (by decide +kernel) fl7_13 ha1 ?_
  obtain ⟨h2, eh2, E⟩ := lt_E E
  refine g_putI X (by decide +kernel) fp7_13 ho eh2 ?_
  refine g_aload_n (n := 0) X (by decide +kernel) 0 rfl ?_
  refine g_aload_n (n := 1) X (by decide +kernel) 1 rfl ?_
  refine g_getI X (by decide +kernel) fl7_16 ha1 ?_
  obtain ⟨h3, eh3, E⟩ := lt_E E
  refine g_putI X (by decide +kernel) fp7_16 ho eh3 ?_
  refine g_aload_n (n := 0) X (by decide +kernel) 0 rfl ?_
  refine g_aload_n (n := 1) X (by decide +kernel) 1 rfl ?_
  refine g_getI X (by decide +kernel) fl7_19 ha1 ?_
  obtain ⟨h4, eh4, E⟩ := lt_E E
  refine g_putI X (by decide +kernel) fp7_19 ho eh4 ?_
  refine g_aload_n (n := 0) X (by decide +kernel) 0 rfl ?_
  refine g_aload_n (n := 1) X (by decide +kernel) 1 rfl ?_
  refine g_getI X (by decide +kernel) fl7_22 ha1 ?_
  obtain ⟨h5, eh5, E⟩ := lt_E E
  refine g_putI X (by decide +kernel) fp7_22 ho eh5 ?_
  refine g_aload_n (n := 0) X (by decide +kernel) 0 rfl ?_
  refine g_aload_n (n := 1) X (by decide +kernel) 1 rfl ?_
  refine g_getI X (by decide +kernel) fl7_25 ha1 ?_
  obtain ⟨h6, eh6, E⟩ := lt_E E
  refine g_putI X (by decide +kernel) fp7_25 ho eh6 ?_
  refine g_aload_n (n := 0) X (by decide +kernel) 0 rfl ?_
  refine g_aload_n (n := 1) X (by decide +kernel) 1 rfl ?_
  refine g_getI X (by decide +kernel) fl7_28 ha1 ?_
  obtain ⟨h7, eh7, E⟩ := lt_E E
  refine g_putI X (by decide +kernel) fp7_28 ho eh7 ?_
  refine g_aload_n (n := 0) X (by decide +kernel) 0 rfl ?_
  refine g_aload_n (n := 1) X (by decide +kernel) 1 rfl ?_
  refine g_getI X (by decide +kernel) fl7_31 ha1 ?_
  obtain ⟨h8, eh8, E⟩ := lt_E E
  refine g_putI X (by decide +kernel) fp7_31 ho eh8 ?_
  refine g_aload_n (n := 0) X (by decide +kernel) 0 rfl ?_
  refine g_aload_n (n := 1) X (by decide +kernel) 1 rfl ?_
  refine g_getI X (by decide +kernel) fl7_34 ha1 ?_
  obtain ⟨h9, eh9, E⟩ := lt_E E
  refine g_putI X (by decide +kernel) fp7_34 ho eh9 ?_
  refine g_aload_n (n := 0) X (by decide +kernel) 0 rfl ?_
  refine g_aload_n (n := 1) X (by decide +kernel) 1 rfl ?_
  refine g_getI X (by decide +kernel) fl7_37 ha1 ?_
  obtain ⟨h10, eh10, E⟩ := lt_E E
  refine g_putI X (by decide +kernel) fp7_37 ho eh10 ?_
  refine g_aload_n (n := 0) X (by decide +kernel) 0 rfl ?_
  refine g_aload_n (n := 1) X (by decide +kernel) 1 rfl ?_
  refine g_getI X (by decide +kernel) fl7_40 ha1 ?_
  obtain ⟨h11, eh11, E⟩ := lt_E E
  refine g_putI X (by decide +kernel) fp7_40 ho eh11 ?_
  refine g_aload_n (n := 0) X (by decide +kernel) 0 rfl ?_
  refine g_aload_n (n := 1) X (by decide +kernel) 1 rfl ?_
  refine g_getI X (by decide +kernel) fl7_43 ha1 ?_
  obtain ⟨h12, eh12, E⟩ := lt_E E
  refine g_putI X (by decide +kernel) fp7_43 ho eh12 ?_
  refine g_aload_n (n := 0) X (by decide +kernel) 0 rfl ?_
  refine g_aload_n (n := 1) X (by decide +kernel) 1 rfl ?_
  refine g_getI X (by decide +kernel) fl7_46 ha1 ?_
  obtain ⟨h13, eh13, E⟩ := lt_E E
  refine g_putI X (by decide +kernel) fp7_46 ho eh13 ?_
  refine g_aload_n (n := 0) X (by decide +kernel) 0 rfl ?_
  refine g_aload_n (n := 1) X (by decide +kernel) 1 rfl ?_
  refine g_getI X (by decide +kernel) fl7_49 ha1 ?_
  obtain ⟨h14, eh14, E⟩ := lt_E E
  refine g_putI X (by decide +kernel) fp7_49 ho eh14 ?_
  obtain rfl := Option.some.inj E
  exact g_return X (by decide +kernel)
-- Store.remove
def f8_remove_L2 (K : Ly) (n : Nat) (x0 : Nat)   : Nat → Int32 → Hp → Option Hp
  | 0, _, _ => none
  | k + 1, x2, h =>
    if (h.1 x0 0) ≤ (x2 + (1 : Int32)) then (
    lt (sI h x0 0 ((h.1 x0 0) - (1 : Int32))) fun h2 =>
    some h2)
    else (
    gd (inb (x2 + (1 : Int32)) 4) <|
    gd (inb x2 4) <|
    lt (sI h (x0 + 1) x2.toNatClampNeg (h.1 (x0 + 1) (x2 + (1 : Int32)).toNatClampNeg)) fun h5 =>
    gd (inb (x2 + (1 : Int32)) 4) <|
    gd (inb x2 4) <|
    lt (sI h5 (x0 + 2) x2.toNatClampNeg (h5.1 (x0 + 2) (x2 + (1 : Int32)).toNatClampNeg)) fun h8 =>
    gd (inb (x2 + (1 : Int32)) 4) <|
    gd (inb x2 4) <|
    lt (sI h8 (x0 + 3) x2.toNatClampNeg (h8.1 (x0 + 3) (x2 + (1 : Int32)).toNatClampNeg)) fun h11 =>
    lt (x2 + (1 : Int32)) fun x2_12 =>
    f8_remove_L2 K n x0  k x2_12 h11)
def f8_remove (K : Ly) (n : Nat) (o : Nat) (a1 : Int32) (h : Hp) : Option Hp :=
    f8_remove_L2 K n o n a1 h
set_option maxHeartbeats 4000000 in
set_option maxRecDepth 20000 in
theorem w8_remove_L2 {Γ : CT} {sp : Sp} {K : Ly} {sz n : Nat} {hf : Hp}  (X : Ok Γ sp prog_10_method_5_code Rc8 3 none 1 none sz K hf) (hK : LyOk K) (x0 : Nat)  (px0 : K x0 = some (.inl 8))  : ∀ (k : Nat) (x2 : Int32) (h : Hp), f8_remove_L2 K n x0  k x2 h = some hf → Go Γ (0, 0) 2 [(0, .ref x0), (2, .int x2)] [] sz K h := by
  intro k
  induction k with
  | zero => intro x2 h E; cases E
  | succ k ih =>
    intro x2 h E
    unfold f8_remove_L2 at E
    refine g_iload_n (n := 2) X (by decide +kernel) 1 rfl ?_
    refine g_iconst (n := 1) (x := (1 : Int32)) X (by decide +kernel) (by decide) ?_
    refine g_iadd X (by decide +kernel) ?_
    refine g_aload_n (n := 0) X (by decide +kernel) 0 rfl ?_
    refine g_getI X (by decide +kernel) fl8_9 px0 ?_
    rcases it_E E with ⟨c1, E⟩ | ⟨c1, E⟩
    · refine g_icmp_ge_t (off := 51) (tgt := 60) X (by decide +kernel) (by decide) c1 ?_
      refine g_aload_n (n := 0) X (by decide +kernel) 0 rfl ?_
      refine g_dup X (by decide +kernel) rfl ?_
      refine g_getI X (by decide +kernel) fl8_9 px0 ?_
      refine g_iconst (n := 1) (x := (1 : Int32)) X (by decide +kernel) (by decide) ?_
      refine g_isub X (by decide +kernel) ?_
      obtain ⟨h2, eh2, E⟩ := lt_E E
      refine g_putI X (by decide +kernel) fp8_9 px0 eh2 ?_
      obtain rfl := Option.some.inj E
      exact g_return X (by decide +kernel)
    · refine g_icmp_ge_f (off := 51) (tgt := 60) X (by decide +kernel) (by decide) c1 ?_
      refine g_aload_n (n := 0) X (by decide +kernel) 0 rfl ?_
      refine g_getS X (by decide +kernel) fl8_15 px0 ?_
      refine g_iload_n (n := 2) X (by decide +kernel) 1 rfl ?_
      refine g_aload_n (n := 0) X (by decide +kernel) 0 rfl ?_
      refine g_getS X (by decide +kernel) fl8_15 px0 ?_
      refine g_iload_n (n := 2) X (by decide +kernel) 1 rfl ?_
      refine g_iconst (n := 1) (x := (1 : Int32)) X (by decide +kernel) (by decide) ?_
      refine g_iadd X (by decide +kernel) ?_
      obtain ⟨c3, E⟩ := gd_E E
      refine g_iald X (by decide +kernel) (ly hK px0 fl8_15 rfl) c3 ?_
      obtain ⟨c4, E⟩ := gd_E E
      obtain ⟨h5, eh5, E⟩ := lt_E E
      refine g_iast X (by decide +kernel) (ly hK px0 fl8_15 rfl) c4 eh5 ?_
      refine g_aload_n (n := 0) X (by decide +kernel) 0 rfl ?_
      refine g_getS X (by decide +kernel) fl8_19 px0 ?_
      refine g_iload_n (n := 2) X (by decide +kernel) 1 rfl ?_
      refine g_aload_n (n := 0) X (by decide +kernel) 0 rfl ?_
      refine g_getS X (by decide +kernel) fl8_19 px0 ?_
      refine g_iload_n (n := 2) X (by decide +kernel) 1 rfl ?_
      refine g_iconst (n := 1) (x := (1 : Int32)) X (by decide +kernel) (by decide) ?_
      refine g_iadd X (by decide +kernel) ?_
      obtain ⟨c6, E⟩ := gd_E E
      refine g_iald X (by decide +kernel) (ly hK px0 fl8_19 rfl) c6 ?_
      obtain ⟨c7, E⟩ := gd_E E
      obtain ⟨h8, eh8, E⟩ := lt_E E
      refine g_iast X (by decide +kernel) (ly hK px0 fl8_19 rfl) c7 eh8 ?_
      refine g_aload_n (n := 0) X (by decide +kernel) 0 rfl ?_
      refine g_getS X (by decide +kernel) fl8_22 px0 ?_
      refine g_iload_n (n := 2) X (by decide +kernel) 1 rfl ?_
      refine g_aload_n (n := 0) X (by decide +kernel) 0 rfl ?_
      refine g_getS X (by decide +kernel) fl8_22 px0 ?_
      refine g_iload_n (n := 2) X (by decide +kernel) 1 rfl ?_
      refine g_iconst (n := 1) (x := (1 : Int32)) X (by decide +kernel) (by decide) ?_
      refine g_iadd X (by decide +kernel) ?_
      obtain ⟨c9, E⟩ := gd_E E
      refine g_iald X (by decide +kernel) (ly hK px0 fl8_22 rfl) c9 ?_
      obtain ⟨c10, E⟩ := gd_E E
      obtain ⟨h11, eh11, E⟩ := lt_E E
      refine g_iast X (by decide +kernel) (ly hK px0 fl8_22 rfl) c10 eh11 ?_
      obtain ⟨x2_12, ex2_12, E⟩ := lt_E E
      refine s_iinc (i := 2) (n := 1) (y := x2_12) X (by decide +kernel) 1 rfl (by decide) ex2_12 (ls_next (by decide) (Or.inr rfl) (ls_here ls_end)) ?_
      refine g_goto (off := -55) (tgt := 2) X (by decide +kernel) (by decide) ?_
      exact ih x2_12 h11  E
set_option maxHeartbeats 4000000 in
set_option maxRecDepth 20000 in
theorem c8_remove {sp : Sp} {K : Ly} {sz n : Nat} (hK : LyOk K) (o : Nat) (a1 : Int32) (h : Hp) (ho : K o = some (.inl 8)) {hf : Hp} (E : f8_remove K n o a1 h = some hf) : Con sp y8_remove prog_10_method_5_code 3 none 1 0 0 [.ref o, .int a1] sz K h none sz K hf := by
  refine Con.of (by decide) (Nat.le_of_ble_eq_true rfl) (fun Γ X _ => ?_)
  show Go Γ (0, 0) 0 [(0, .ref o), (1, .int a1)] [] sz K h
  unfold f8_remove at E
  refine g_iload_n (n := 1) X (by decide +kernel) 1 rfl ?_
  refine s_istore_n (n := 2) (i := 2) X (by decide +kernel) rfl (by decide) rfl (ls_next (by decide) (Or.inr rfl) (ls_next (by decide) (Or.inr rfl) (ls_ins ls_end))) ?_
  refine g_sub [0, 2] rfl ?_
  exact w8_remove_L2 X hK o ho n a1 h E
-- Store.add
def f8_add (K : Ly) (n : Nat) (o : Nat) (a1 : Int32) (a2 : Int32) (a3 : Int32) (h : Hp) : Option Hp :=
    if (4 : Int32) ≤ (h.1 o 0) then (
    some h)
    else (
    gd (inb (h.1 o 0) 4) <|
    lt (sI h (o + 1) (h.1 o 0).toNatClampNeg a1) fun h3 =>
    gd (inb (h3.1 o 0) 4) <|
    lt (sI h3 (o + 2) (h3.1 o 0).toNatClampNeg a2) fun h5 =>
    gd (inb (h5.1 o 0) 4) <|
    lt (sI h5 (o + 3) (h5.1 o 0).toNatClampNeg a3) fun h7 =>
    lt (sI h7 o 0 ((h7.1 o 0) + (1 : Int32))) fun h8 =>
    some h8)
set_option maxHeartbeats 4000000 in
set_option maxRecDepth 20000 in
theorem c8_add {sp : Sp} {K : Ly} {sz n : Nat} (hK : LyOk K) (o : Nat) (a1 : Int32) (a2 : Int32) (a3 : Int32) (h : Hp) (ho : K o = some (.inl 8)) {hf : Hp} (E : f8_add K n o a1 a2 a3 h = some hf) : Con sp y8_add prog_10_method_6_code 4 none 1 0 0 [.ref o, .int a1, .int a2, .int a3] sz K h none sz K hf := by
  refine Con.of (by decide) (Nat.le_of_ble_eq_true rfl) (fun Γ X _ => ?_)
  show Go Γ (0, 0) 0 [(0, .ref o), (1, .int a1), (2, .int a2), (3, .int a3)] [] sz K h
  unfold f8_add at E
  refine g_aload_n (n := 0) X (by decide +kernel) 0 rfl ?_
  refine g_getI X (by decide +kernel) fl8_9 ho ?_
  refine g_iconst (n := 4) (x := (4 : Int32)) X (by decide +kernel) (by decide) ?_
  rcases it_E E with ⟨c1, E⟩ | ⟨c1, E⟩
  · refine g_icmp_ge_t (off := 43) (tgt := 48) X (by decide +kernel) (by decide) c1 ?_
    obtain rfl := Option.some.inj E
    exact g_return X (by decide +kernel)
  · refine g_icmp_ge_f (off := 43) (tgt := 48) X (by decide +kernel) (by decide) c1 ?_
    refine g_aload_n (n := 0) X (by decide +kernel) 0 rfl ?_
    refine g_getS X (by decide +kernel) fl8_15 ho ?_
    refine g_aload_n (n := 0) X (by decide +kernel) 0 rfl ?_
    refine g_getI X (by decide +kernel) fl8_9 ho ?_
    refine g_iload_n (n := 1) X (by decide +kernel) 1 rfl ?_
    obtain ⟨c2, E⟩ := gd_E E
    obtain ⟨h3, eh3, E⟩ := lt_E E
    refine g_iast X (by decide +kernel) (ly hK ho fl8_15 rfl) c2 eh3 ?_
    refine g_aload_n (n := 0) X (by decide +kernel) 0 rfl ?_
    refine g_getS X (by decide +kernel) fl8_19 ho ?_
    refine g_aload_n (n := 0) X (by decide +kernel) 0 rfl ?_
    refine g_getI X (by decide +kernel) fl8_9 ho ?_
    refine g_iload_n (n := 2) X (by decide +kernel) 2 rfl ?_
    obtain ⟨c4, E⟩ := gd_E E
    obtain ⟨h5, eh5, E⟩ := lt_E E
    refine g_iast X (by decide +kernel) (ly hK ho fl8_19 rfl) c4 eh5 ?_
    refine g_aload_n (n := 0) X (by decide +kernel) 0 rfl ?_
    refine g_getS X (by decide +kernel) fl8_22 ho ?_
    refine g_aload_n (n := 0) X (by decide +kernel) 0 rfl ?_
    refine g_getI X (by decide +kernel) fl8_9 ho ?_
    refine g_iload_n (n := 3) X (by decide +kernel) 3 rfl ?_
    obtain ⟨c6, E⟩ := gd_E E
    obtain ⟨h7, eh7, E⟩ := lt_E E
    refine g_iast X (by decide +kernel) (ly hK ho fl8_22 rfl) c6 eh7 ?_
    refine g_aload_n (n := 0) X (by decide +kernel) 0 rfl ?_
    refine g_dup X (by decide +kernel) rfl ?_
    refine g_getI X (by decide +kernel) fl8_9 ho ?_
    refine g_iconst (n := 1) (x := (1 : Int32)) X (by decide +kernel) (by decide) ?_
    refine g_iadd X (by decide +kernel) ?_
    obtain ⟨h8, eh8, E⟩ := lt_E E
    refine g_putI X (by decide +kernel) fp8_9 ho eh8 ?_
    obtain rfl := Option.some.inj E
    exact g_return X (by decide +kernel)
-- Store.use
def f8_use (K : Ly) (n : Nat) (o : Nat) (a1 : Int32) (h : Hp) : Option Hp :=
    gd (inb a1 4) <|
    lt (h.1 (o + 1) a1.toNatClampNeg) fun x2_2 =>
    gd (inb a1 4) <|
    lt (h.1 (o + 2) a1.toNatClampNeg) fun x3_4 =>
    gd (inb a1 4) <|
    lt (h.1 (o + 3) a1.toNatClampNeg) fun x4_6 =>
    bp (f8_remove K n o a1 h) fun h8 =>
    bp (f8_add K n o x2_2 x3_4 x4_6 h8) fun h10 =>
    some h10
set_option maxHeartbeats 4000000 in
set_option maxRecDepth 20000 in
theorem c8_use {sp : Sp} {K : Ly} {sz n : Nat} (hK : LyOk K) (o : Nat) (a1 : Int32) (h : Hp) (ho : K o = some (.inl 8)) {hf : Hp} (E : f8_use K n o a1 h = some hf) : Con sp y8_use prog_10_method_3_code 5 none 2 0 0 [.ref o, .int a1] sz K h none sz K hf := by
  refine Con.of (by decide) (Nat.le_of_ble_eq_true rfl) (fun Γ X _ => ?_)
  show Go Γ (0, 0) 0 [(0, .ref o), (1, .int a1)] [] sz K h
  unfold f8_use at E
  refine g_aload_n (n := 0) X (by decide +kernel) 0 rfl ?_
  refine g_getS X (by decide +kernel) fl8_15 ho ?_
  refine g_iload_n (n := 1) X (by decide +kernel) 1 rfl ?_
  obtain ⟨c1, E⟩ := gd_E E
  refine g_iald X (by decide +kernel) (ly hK ho fl8_15 rfl) c1 ?_
  obtain ⟨x2_2, ex2_2, E⟩ := lt_E E
  refine s_istore_n (n := 2) (i := 2) X (by decide +kernel) rfl (by decide) ex2_2 (ls_next (by decide) (Or.inr rfl) (ls_next (by decide) (Or.inr rfl) (ls_ins ls_end))) ?_
  refine g_aload_n (n := 0) X (by decide +kernel) 0 rfl ?_
  refine g_getS X (by decide +kernel) fl8_19 ho ?_
  refine g_iload_n (n := 1) X (by decide +kernel) 1 rfl ?_
  obtain ⟨c3, E⟩ := gd_E E
  refine g_iald X (by decide +kernel) (ly hK ho fl8_19 rfl) c3 ?_
  obtain ⟨x3_4, ex3_4, E⟩ := lt_E E
  refine s_istore_n (n := 3) (i := 3) X (by decide +kernel) rfl (by decide) ex3_4 (ls_next (by decide) (Or.inr rfl) (ls_next (by decide) (Or.inr rfl) (ls_next (by decide) (Or.inr rfl) (ls_ins ls_end)))) ?_
  refine g_aload_n (n := 0) X (by decide +kernel) 0 rfl ?_
  refine g_getS X (by decide +kernel) fl8_22 ho ?_
  refine g_iload_n (n := 1) X (by decide +kernel) 1 rfl ?_
  obtain ⟨c5, E⟩ := gd_E E
  refine g_iald X (by decide +kernel) (ly hK ho fl8_22 rfl) c5 ?_
  obtain ⟨x4_6, ex4_6, E⟩ := lt_E E
  refine s_istore (i := 4) X (by decide +kernel) (by decide) ex4_6 (ls_next (by decide) (Or.inr rfl) (ls_next (by decide) (Or.inr rfl) (ls_next (by decide) (Or.inr rfl) (ls_next (by decide) (Or.inr rfl) (ls_ins ls_end))))) ?_
  refine g_aload_n (n := 0) X (by decide +kernel) 0 rfl ?_
  refine g_iload_n (n := 1) X (by decide +kernel) 1 rfl ?_
  obtain ⟨h8, e7, E⟩ := bp_E E
  refine g_callV0 (st := []) X [.int a1] (by decide +kernel) ml8_25 ho rfl rfl (by decide) (Nat.le_of_ble_eq_true rfl) (c8_remove hK o a1 h ho e7) ?_
  refine g_aload_n (n := 0) X (by decide +kernel) 0 rfl ?_
  refine g_iload_n (n := 2) X (by decide +kernel) 2 rfl ?_
  refine g_iload_n (n := 3) X (by decide +kernel) 3 rfl ?_
  refine g_iload (n := 4) X (by decide +kernel) 4 rfl ?_
  obtain ⟨h10, e9, E⟩ := bp_E E
  refine g_callV0 (st := []) X [.int x2_2, .int x3_4, .int x4_6] (by decide +kernel) ml8_29 ho rfl rfl (by decide) (Nat.le_of_ble_eq_true rfl) (c8_add hK o x2_2 x3_4 x4_6 h8 ho e9) ?_
  obtain rfl := Option.some.inj E
  exact g_return X (by decide +kernel)
-- Entry.join
def f6_join (K : Ly) (n : Nat) (o : Nat) (a1 : Int32) (a2 : Int32) (h : Hp) : Option Hp :=
    lt (sL h o 5 ((h.2.1 o 5) ||| ((1 : Int64) <<< (a2.toInt64 &&& 63)))) fun h1 =>
    if a1 = (-1 : Int32) then (
    lt (sL h1 o 4 ((h1.2.1 o 4) ||| ((1 : Int64) <<< (a2.toInt64 &&& 63)))) fun h3 =>
    some h3)
    else (
    lt (sI h1 o 3 ((h1.1 o 3) ||| ((1 : Int32) <<< (a1 &&& 31)))) fun h4 =>
    some h4)
set_option maxHeartbeats 4000000 in
set_option maxRecDepth 20000 in
theorem c6_join {sp : Sp} {K : Ly} {sz n : Nat} (hK : LyOk K) (o : Nat) (a1 : Int32) (a2 : Int32) (h : Hp) (ho : K o = some (.inl 6)) {hf : Hp} (E : f6_join K n o a1 a2 h = some hf) : Con sp y6_join prog_3_method_2_code 3 none 1 0 0 [.ref o, .int a1, .int a2] sz K h none sz K hf := by
  refine Con.of (by decide) (Nat.le_of_ble_eq_true rfl) (fun Γ X _ => ?_)
  show Go Γ (0, 0) 0 [(0, .ref o), (1, .int a1), (2, .int a2)] [] sz K h
  unfold f6_join at E
  refine g_aload_n (n := 0) X (by decide +kernel) 0 rfl ?_
  refine g_dup X (by decide +kernel) rfl ?_
  refine g_getL X (by decide +kernel) fl6_28 ho ?_
  refine g_lconst (n := 1) (x := (1 : Int64)) X (by decide +kernel) (by decide) ?_
  refine g_iload_n (n := 2) X (by decide +kernel) 2 rfl ?_
  refine g_lshl X (by decide +kernel) ?_
  refine g_lor X (by decide +kernel) ?_
  obtain ⟨h1, eh1, E⟩ := lt_E E
  refine g_putL X (by decide +kernel) fp6_28 ho eh1 ?_
  refine g_iload_n (n := 1) X (by decide +kernel) 1 rfl ?_
  refine g_iconst (n := -1) (x := (-1 : Int32)) X (by decide +kernel) (by decide) ?_
  rcases it_E E with ⟨c2, E⟩ | ⟨c2, E⟩
  · refine g_icmp_ne_f (off := 18) (tgt := 32) X (by decide +kernel) (by decide) (fun z => z c2) ?_
    refine g_aload_n (n := 0) X (by decide +kernel) 0 rfl ?_
    refine g_dup X (by decide +kernel) rfl ?_
    refine g_getL X (by decide +kernel) fl6_24 ho ?_
    refine g_lconst (n := 1) (x := (1 : Int64)) X (by decide +kernel) (by decide) ?_
    refine g_iload_n (n := 2) X (by decide +kernel) 2 rfl ?_
    refine g_lshl X (by decide +kernel) ?_
    refine g_lor X (by decide +kernel) ?_
    obtain ⟨h3, eh3, E⟩ := lt_E E
    refine g_putL X (by decide +kernel) fp6_24 ho eh3 ?_
    refine g_goto (off := 15) (tgt := 44) X (by decide +kernel) (by decide) ?_
    obtain rfl := Option.some.inj E
    exact g_return X (by decide +kernel)
  · refine g_icmp_ne_t (off := 18) (tgt := 32) X (by decide +kernel) (by decide) c2 ?_
    refine g_aload_n (n := 0) X (by decide +kernel) 0 rfl ?_
    refine g_dup X (by decide +kernel) rfl ?_
    refine g_getI X (by decide +kernel) fl6_21 ho ?_
    refine g_iconst (n := 1) (x := (1 : Int32)) X (by decide +kernel) (by decide) ?_
    refine g_iload_n (n := 1) X (by decide +kernel) 1 rfl ?_
    refine g_ishl X (by decide +kernel) ?_
    refine g_ior X (by decide +kernel) ?_
    obtain ⟨h4, eh4, E⟩ := lt_E E
    refine g_putI X (by decide +kernel) fp6_21 ho eh4 ?_
    obtain rfl := Option.some.inj E
    exact g_return X (by decide +kernel)
-- Store.keep
def f8_keep_J39 (K : Ly) (n : Nat)  (x0 : Nat) (x1 : Nat) (x2 : Int32) (h : Hp) : Option Hp :=
    if x2 ≤ (h.1 x0 0) then (
    some h)
    else (
    bp (f8_add K n x0 (h.1 x1 4) (h.1 x1 7) (h.1 x1 8) h) fun h12 =>
    some h12)
def f8_keep_J19 (K : Ly) (n : Nat)  (x0 : Nat) (x1 : Nat) (x2 : Int32) (h : Hp) : Option Hp :=
    if (h.1 x0 0) ≤ 0 then (
    f8_keep_J39 K n x0 x1 x2 h)
    else (
    if (h.1 x0 0) < x2 then (
    f8_keep_J39 K n x0 x1 x2 h)
    else (
    bp (f8_remove K n x0 (0 : Int32) h) fun h9 =>
    f8_keep_J39 K n x0 x1 x2 h9))
def f8_keep (K : Ly) (n : Nat) (o : Nat) (a1 : Nat) (a2 : Int32) (h : Hp) : Option Hp :=
    bp (f8_find K n o (h.1 a1 4) h) fun y2 =>
    if y2 = (-1 : Int32) then (
    f8_keep_J19 K n o a1 a2 h)
    else (
    bp (f8_remove K n o y2 h) fun h5 =>
    f8_keep_J19 K n o a1 a2 h5)
set_option maxHeartbeats 4000000 in
set_option maxRecDepth 20000 in
theorem w8_keep_J39 {Γ : CT} {sp : Sp} {K : Ly} {sz n : Nat} {hf : Hp}   (X : Ok Γ sp prog_10_method_4_code Rc8 4 none 2 none sz K hf) (hK : LyOk K) (x0 : Nat) (x1 : Nat) (x2 : Int32) (h : Hp)  (px0 : K x0 = some (.inl 8)) (px1 : K x1 = some (.inl 7)) (E : f8_keep_J39 K n x0 x1 x2 h = some hf) : Go Γ (0, 0) 39 [(0, .ref x0), (1, .ref x1), (2, .int x2)] [] sz K h := by
  unfold f8_keep_J39 at E
  refine g_aload_n (n := 0) X (by decide +kernel) 0 rfl ?_
  refine g_getI X (by decide +kernel) fl8_9 px0 ?_
  refine g_iload_n (n := 2) X (by decide +kernel) 2 rfl ?_
  rcases it_E E with ⟨c10, E⟩ | ⟨c10, E⟩
  · refine g_icmp_ge_t (off := 19) (tgt := 63) X (by decide +kernel) (by decide) c10 ?_
    obtain rfl := Option.some.inj E
    exact g_return X (by decide +kernel)
  · refine g_icmp_ge_f (off := 19) (tgt := 63) X (by decide +kernel) (by decide) c10 ?_
    refine g_aload_n (n := 0) X (by decide +kernel) 0 rfl ?_
    refine g_aload_n (n := 1) X (by decide +kernel) 1 rfl ?_
    refine g_getI X (by decide +kernel) fl8_33 px1 ?_
    refine g_aload_n (n := 1) X (by decide +kernel) 1 rfl ?_
    refine g_getI X (by decide +kernel) fl8_41 px1 ?_
    refine g_aload_n (n := 1) X (by decide +kernel) 1 rfl ?_
    refine g_getI X (by decide +kernel) fl8_43 px1 ?_
    obtain ⟨h12, e11, E⟩ := bp_E E
    refine g_callV0 (st := []) X [.int (h.1 x1 4), .int (h.1 x1 7), .int (h.1 x1 8)] (by decide +kernel) ml8_29 px0 rfl rfl (by decide) (Nat.le_of_ble_eq_true rfl) (c8_add hK x0 (h.1 x1 4) (h.1 x1 7) (h.1 x1 8) h px0 e11) ?_
    obtain rfl := Option.some.inj E
    exact g_return X (by decide +kernel)
set_option maxHeartbeats 4000000 in
set_option maxRecDepth 20000 in
theorem w8_keep_J19 {Γ : CT} {sp : Sp} {K : Ly} {sz n : Nat} {hf : Hp}   (X : Ok Γ sp prog_10_method_4_code Rc8 4 none 2 none sz K hf) (hK : LyOk K) (x0 : Nat) (x1 : Nat) (x2 : Int32) (h : Hp)  (px0 : K x0 = some (.inl 8)) (px1 : K x1 = some (.inl 7)) (E : f8_keep_J19 K n x0 x1 x2 h = some hf) : Go Γ (0, 0) 19 [(0, .ref x0), (1, .ref x1), (2, .int x2)] [] sz K h := by
  unfold f8_keep_J19 at E
  refine g_aload_n (n := 0) X (by decide +kernel) 0 rfl ?_
  refine g_getI X (by decide +kernel) fl8_9 px0 ?_
  rcases it_E E with ⟨c6, E⟩ | ⟨c6, E⟩
  · refine g_if_le_t (off := 16) (tgt := 39) X (by decide +kernel) (by decide) c6 ?_
    exact w8_keep_J39 X hK x0 x1 x2 h px0 px1 E
  · refine g_if_le_f (off := 16) (tgt := 39) X (by decide +kernel) (by decide) c6 ?_
    refine g_aload_n (n := 0) X (by decide +kernel) 0 rfl ?_
    refine g_getI X (by decide +kernel) fl8_9 px0 ?_
    refine g_iload_n (n := 2) X (by decide +kernel) 2 rfl ?_
    rcases it_E E with ⟨c7, E⟩ | ⟨c7, E⟩
    · refine g_icmp_lt_t (off := 8) (tgt := 39) X (by decide +kernel) (by decide) c7 ?_
      exact w8_keep_J39 X hK x0 x1 x2 h px0 px1 E
    · refine g_icmp_lt_f (off := 8) (tgt := 39) X (by decide +kernel) (by decide) c7 ?_
      refine g_aload_n (n := 0) X (by decide +kernel) 0 rfl ?_
      refine g_iconst (n := 0) (x := (0 : Int32)) X (by decide +kernel) (by decide) ?_
      obtain ⟨h9, e8, E⟩ := bp_E E
      refine g_callV0 (st := []) X [.int (0 : Int32)] (by decide +kernel) ml8_25 px0 rfl rfl (by decide) (Nat.le_of_ble_eq_true rfl) (c8_remove hK x0 (0 : Int32) h px0 e8) ?_
      exact w8_keep_J39 X hK x0 x1 x2 h9 px0 px1 E
set_option maxHeartbeats 4000000 in
set_option maxRecDepth 20000 in
theorem c8_keep {sp : Sp} {K : Ly} {sz n : Nat} (hK : LyOk K) (o : Nat) (a1 : Nat) (a2 : Int32) (h : Hp) (ho : K o = some (.inl 8)) (ha1 : K a1 = some (.inl 7)) {hf : Hp} (E : f8_keep K n o a1 a2 h = some hf) : Con sp y8_keep prog_10_method_4_code 4 none 2 0 0 [.ref o, .ref a1, .int a2] sz K h none sz K hf := by
  refine Con.of (by decide) (Nat.le_of_ble_eq_true rfl) (fun Γ X _ => ?_)
  show Go Γ (0, 0) 0 [(0, .ref o), (1, .ref a1), (2, .int a2)] [] sz K h
  unfold f8_keep at E
  refine g_aload_n (n := 0) X (by decide +kernel) 0 rfl ?_
  refine g_aload_n (n := 1) X (by decide +kernel) 1 rfl ?_
  refine g_getI X (by decide +kernel) fl8_33 ha1 ?_
  obtain ⟨y2, e1, E⟩ := bp_E E
  refine g_callV1 (st := []) X [.int (h.1 a1 4)] (by decide +kernel) ml8_37 ho rfl rfl (by decide) (Nat.le_of_ble_eq_true rfl) (c8_find hK o (h.1 a1 4) h ho e1) ?_
  refine s_istore_n (n := 3) (i := 3) X (by decide +kernel) rfl (by decide) rfl (ls_next (by decide) (Or.inr rfl) (ls_next (by decide) (Or.inr rfl) (ls_next (by decide) (Or.inr rfl) (ls_ins ls_end)))) ?_
  refine g_iload_n (n := 3) X (by decide +kernel) 3 rfl ?_
  refine g_iconst (n := -1) (x := (-1 : Int32)) X (by decide +kernel) (by decide) ?_
  rcases it_E E with ⟨c3, E⟩ | ⟨c3, E⟩
  · refine g_icmp_eq_t (off := 8) (tgt := 19) X (by decide +kernel) (by decide) c3 ?_
    refine g_sub [0, 1, 2] rfl ?_
    exact w8_keep_J19 X hK o a1 a2 h ho ha1 E
  · refine g_icmp_eq_f (off := 8) (tgt := 19) X (by decide +kernel) (by decide) c3 ?_
    refine g_aload_n (n := 0) X (by decide +kernel) 0 rfl ?_
    refine g_iload_n (n := 3) X (by decide +kernel) 3 rfl ?_
    obtain ⟨h5, e4, E⟩ := bp_E E
    refine g_callV0 (st := []) X [.int y2] (by decide +kernel) ml8_25 ho rfl rfl (by decide) (Nat.le_of_ble_eq_true rfl) (c8_remove hK o y2 h ho e4) ?_
    refine g_sub [0, 1, 2] rfl ?_
    exact w8_keep_J19 X hK o a1 a2 h5 ho ha1 E
-- Entry.look
def f6_look (o : Nat) (a1 : Int32) (h : Hp) : Int32 :=
    if a1 = (0 : Int32) then (
    (h.1 o 1))
    else if a1 = (1 : Int32) then (
    (h.1 o 2))
    else if a1 = (2 : Int32) then (
    (h.1 o 3))
    else if a1 = (3 : Int32) then (
    (fJLong_bitCount (h.2.1 o 4)))
    else if a1 = (4 : Int32) then (
    (h.1 o 7))
    else if a1 = (5 : Int32) then (
    (h.1 o 8))
    else if a1 = (6 : Int32) then (
    (h.1 o 9))
    else if a1 = (7 : Int32) then (
    (h.1 o 10))
    else (
    (-1 : Int32))
set_option maxHeartbeats 4000000 in
set_option maxRecDepth 20000 in
theorem c6_look {sp : Sp} {K : Ly} {sz : Nat} (hK : LyOk K) (o : Nat) (a1 : Int32) (h : Hp) (ho : K o = some (.inl 6)) : Con sp y6_look prog_3_method_3_code 2 (some (.int)) 2 0 0 [.ref o, .int a1] sz K h (some (.int (f6_look o a1 h))) sz K h := by
  obtain ⟨v, E⟩ : ∃ v, f6_look o a1 h = v := ⟨_, rfl⟩
  rw [E]
  refine Con.of (by decide) (Nat.le_of_ble_eq_true rfl) (fun Γ X _ => ?_)
  show Go Γ (0, 0) 0 [(0, .ref o), (1, .int a1)] [] sz K h
  unfold f6_look at E
  refine g_iload_n (n := 1) X (by decide +kernel) 1 rfl ?_
  rcases it_E E with ⟨c1, E⟩ | ⟨c1, E⟩
  · refine g_tab_in (dflt := 90) (lo := 0) (hi := 7) (offs := #[47, 52, 57, 62, 70, 75, 80, 85]) (len := 47) (off := 47) (tgt := 48) X (by decide +kernel) (by rw [c1]; decide) (by rw [c1]; decide) (by rw [c1]; decide) (by decide) ?_
    refine g_aload_n (n := 0) X (by decide +kernel) 0 rfl ?_
    refine g_getI X (by decide +kernel) fl6_15 ho ?_
    subst E
    exact g_ireturn X (by decide +kernel)
  · rcases it_E E with ⟨c2, E⟩ | ⟨c2, E⟩
    · refine g_tab_in (dflt := 90) (lo := 0) (hi := 7) (offs := #[47, 52, 57, 62, 70, 75, 80, 85]) (len := 47) (off := 52) (tgt := 53) X (by decide +kernel) (by rw [c2]; decide) (by rw [c2]; decide) (by rw [c2]; decide) (by decide) ?_
      refine g_aload_n (n := 0) X (by decide +kernel) 0 rfl ?_
      refine g_getI X (by decide +kernel) fl6_18 ho ?_
      subst E
      exact g_ireturn X (by decide +kernel)
    · rcases it_E E with ⟨c3, E⟩ | ⟨c3, E⟩
      · refine g_tab_in (dflt := 90) (lo := 0) (hi := 7) (offs := #[47, 52, 57, 62, 70, 75, 80, 85]) (len := 47) (off := 57) (tgt := 58) X (by decide +kernel) (by rw [c3]; decide) (by rw [c3]; decide) (by rw [c3]; decide) (by decide) ?_
        refine g_aload_n (n := 0) X (by decide +kernel) 0 rfl ?_
        refine g_getI X (by decide +kernel) fl6_21 ho ?_
        subst E
        exact g_ireturn X (by decide +kernel)
      · rcases it_E E with ⟨c4, E⟩ | ⟨c4, E⟩
        · refine g_tab_in (dflt := 90) (lo := 0) (hi := 7) (offs := #[47, 52, 57, 62, 70, 75, 80, 85]) (len := 47) (off := 62) (tgt := 63) X (by decide +kernel) (by rw [c4]; decide) (by rw [c4]; decide) (by rw [c4]; decide) (by decide) ?_
          refine g_aload_n (n := 0) X (by decide +kernel) 0 rfl ?_
          refine g_getL X (by decide +kernel) fl6_24 ho ?_
          refine g_callS1 (st := []) X [.long (h.2.1 o 4)] (by decide +kernel) ml6_46 (by decide) (Nat.le_of_ble_eq_true rfl) (cJLong_bitCount hK (h.2.1 o 4) h ) ?_
          subst E
          exact g_ireturn X (by decide +kernel)
        · rcases it_E E with ⟨c5, E⟩ | ⟨c5, E⟩
          · refine g_tab_in (dflt := 90) (lo := 0) (hi := 7) (offs := #[47, 52, 57, 62, 70, 75, 80, 85]) (len := 47) (off := 70) (tgt := 71) X (by decide +kernel) (by rw [c5]; decide) (by rw [c5]; decide) (by rw [c5]; decide) (by decide) ?_
            refine g_aload_n (n := 0) X (by decide +kernel) 0 rfl ?_
            refine g_getI X (by decide +kernel) fl6_34 ho ?_
            subst E
            exact g_ireturn X (by decide +kernel)
          · rcases it_E E with ⟨c6, E⟩ | ⟨c6, E⟩
            · refine g_tab_in (dflt := 90) (lo := 0) (hi := 7) (offs := #[47, 52, 57, 62, 70, 75, 80, 85]) (len := 47) (off := 75) (tgt := 76) X (by decide +kernel) (by rw [c6]; decide) (by rw [c6]; decide) (by rw [c6]; decide) (by decide) ?_
              refine g_aload_n (n := 0) X (by decide +kernel) 0 rfl ?_
              refine g_getI X (by decide +kernel) fl6_37 ho ?_
              subst E
              exact g_ireturn X (by decide +kernel)
            · rcases it_E E with ⟨c7, E⟩ | ⟨c7, E⟩
              · refine g_tab_in (dflt := 90) (lo := 0) (hi := 7) (offs := #[47, 52, 57, 62, 70, 75, 80, 85]) (len := 47) (off := 80) (tgt := 81) X (by decide +kernel) (by rw [c7]; decide) (by rw [c7]; decide) (by rw [c7]; decide) (by decide) ?_
                refine g_aload_n (n := 0) X (by decide +kernel) 0 rfl ?_
                refine g_getI X (by decide +kernel) fl6_40 ho ?_
                subst E
                exact g_ireturn X (by decide +kernel)
              · rcases it_E E with ⟨c8, E⟩ | ⟨c8, E⟩
                · refine g_tab_in (dflt := 90) (lo := 0) (hi := 7) (offs := #[47, 52, 57, 62, 70, 75, 80, 85]) (len := 47) (off := 85) (tgt := 86) X (by decide +kernel) (by rw [c8]; decide) (by rw [c8]; decide) (by rw [c8]; decide) (by decide) ?_
                  refine g_aload_n (n := 0) X (by decide +kernel) 0 rfl ?_
                  refine g_getI X (by decide +kernel) fl6_43 ho ?_
                  subst E
                  exact g_ireturn X (by decide +kernel)
                · have z9 : a1.toInt < 0 ∨ 7 < a1.toInt := by
                    have z := sw_out (x := a1) 0 7 (by decide) (by decide) (by
                      intro j hj
                      have hj2 : j = 0 ∨ j = 1 ∨ j = 2 ∨ j = 3 ∨ j = 4 ∨ j = 5 ∨ j = 6 ∨ j = 7 := by omega
                      rcases hj2 with rfl | rfl | rfl | rfl | rfl | rfl | rfl | rfl
                      · exact c1
                      · exact c2
                      · exact c3
                      · exact c4
                      · exact c5
                      · exact c6
                      · exact c7
                      · exact c8)
                    simpa using z
                  refine g_tab_out (dflt := 90) (lo := 0) (hi := 7) (offs := #[47, 52, 57, 62, 70, 75, 80, 85]) (len := 47) (tgt := 91) X (by decide +kernel) z9 (by decide) ?_
                  refine g_iconst (n := -1) (x := (-1 : Int32)) X (by decide +kernel) (by decide) ?_
                  subst E
                  exact g_ireturn X (by decide +kernel)
-- Run.asks
def f3_asks_J31 (K : Ly) (n : Nat)   (h : Hp) : Option (Int32) :=
    some (1 : Int32)
def f3_asks (K : Ly) (n : Nat) (o : Nat) (a1 : Int32) (h : Hp) : Option (Int32) :=
    if a1 < 0 then (
    some (0 : Int32))
    else (
    if (h.1 o 0) ≤ a1 then (
    some (0 : Int32))
    else (
    gd (inb a1 40) <|
    if (h.1 (o + 1) a1.toNatClampNeg) = 0 then (
    f3_asks_J31 K n h)
    else (
    gd (inb a1 40) <|
    some (if (h.1 (o + 1) a1.toNatClampNeg) = (1 : Int32) then (1 : Int32) else (0 : Int32)))))
set_option maxHeartbeats 4000000 in
set_option maxRecDepth 20000 in
theorem w3_asks_J31 {Γ : CT} {sp : Sp} {K : Ly} {sz n : Nat} {v : Int32} {h : Hp}   (X : Ok Γ sp prog_9_method_4_code Rc3 2 (some (.boolean)) 1 (some (.int v)) sz K h) (hK : LyOk K)     (E : f3_asks_J31 K n h = some v) : Go Γ (0, 0) 31 [] [] sz K h := by
  unfold f3_asks_J31 at E
  refine g_iconst (n := 1) (x := (1 : Int32)) X (by decide +kernel) (by decide) ?_
  refine g_goto (off := 4) (tgt := 36) X (by decide +kernel) (by decide) ?_
  obtain rfl := Option.some.inj E
  exact g_zreturn X (by decide +kernel) rfl
set_option maxHeartbeats 4000000 in
set_option maxRecDepth 20000 in
theorem c3_asks {sp : Sp} {K : Ly} {sz n : Nat} (hK : LyOk K) (o : Nat) (a1 : Int32) (h : Hp) (ho : K o = some (.inl 3)) {v : Int32} (E : f3_asks K n o a1 h = some v) : Con sp y3_asks prog_9_method_4_code 2 (some (.boolean)) 1 0 0 [.ref o, .int a1] sz K h (some (.int v)) sz K h := by
  refine Con.of (by decide) (Nat.le_of_ble_eq_true rfl) (fun Γ X _ => ?_)
  show Go Γ (0, 0) 0 [(0, .ref o), (1, .int a1)] [] sz K h
  unfold f3_asks at E
  refine g_iload_n (n := 1) X (by decide +kernel) 1 rfl ?_
  rcases it_E E with ⟨c1, E⟩ | ⟨c1, E⟩
  · refine g_if_lt_t (off := 34) (tgt := 35) X (by decide +kernel) (by decide) c1 ?_
    refine g_iconst (n := 0) (x := (0 : Int32)) X (by decide +kernel) (by decide) ?_
    obtain rfl := Option.some.inj E
    exact g_zreturn X (by decide +kernel) rfl
  · refine g_if_lt_f (off := 34) (tgt := 35) X (by decide +kernel) (by decide) c1 ?_
    refine g_iload_n (n := 1) X (by decide +kernel) 1 rfl ?_
    refine g_aload_n (n := 0) X (by decide +kernel) 0 rfl ?_
    refine g_getI X (by decide +kernel) fl3_9 ho ?_
    rcases it_E E with ⟨c2, E⟩ | ⟨c2, E⟩
    · refine g_icmp_ge_t (off := 26) (tgt := 35) X (by decide +kernel) (by decide) c2 ?_
      refine g_iconst (n := 0) (x := (0 : Int32)) X (by decide +kernel) (by decide) ?_
      obtain rfl := Option.some.inj E
      exact g_zreturn X (by decide +kernel) rfl
    · refine g_icmp_ge_f (off := 26) (tgt := 35) X (by decide +kernel) (by decide) c2 ?_
      refine g_aload_n (n := 0) X (by decide +kernel) 0 rfl ?_
      refine g_getS X (by decide +kernel) fl3_15 ho ?_
      refine g_iload_n (n := 1) X (by decide +kernel) 1 rfl ?_
      obtain ⟨c3, E⟩ := gd_E E
      refine g_iald X (by decide +kernel) (ly hK ho fl3_15 rfl) c3 ?_
      rcases it_E E with ⟨c4, E⟩ | ⟨c4, E⟩
      · refine g_if_eq_t (off := 13) (tgt := 31) X (by decide +kernel) (by decide) c4 ?_
        refine g_sub [] rfl ?_
        exact w3_asks_J31 X hK  E
      · refine g_if_eq_f (off := 13) (tgt := 31) X (by decide +kernel) (by decide) c4 ?_
        refine g_aload_n (n := 0) X (by decide +kernel) 0 rfl ?_
        refine g_getS X (by decide +kernel) fl3_15 ho ?_
        refine g_iload_n (n := 1) X (by decide +kernel) 1 rfl ?_
        obtain ⟨c5, E⟩ := gd_E E
        refine g_iald X (by decide +kernel) (ly hK ho fl3_15 rfl) c5 ?_
        refine g_iconst (n := 1) (x := (1 : Int32)) X (by decide +kernel) (by decide) ?_
        have hJ : Go Γ (0, 0) 36 [] [.int (if (h.1 (o + 1) a1.toNatClampNeg) = (1 : Int32) then (1 : Int32) else (0 : Int32))] sz K h := by
          obtain rfl := Option.some.inj E
          exact g_zreturn X (by decide +kernel) (by (repeat' split) <;> rfl)
        clear E
        by_cases c6 : (h.1 (o + 1) a1.toNatClampNeg) = (1 : Int32)
        · rw [if_pos c6] at hJ
          refine g_icmp_ne_f (off := 7) (tgt := 35) X (by decide +kernel) (by decide) (fun z => z c6) ?_
          refine g_iconst (n := 1) (x := (1 : Int32)) X (by decide +kernel) (by decide) ?_
          refine g_goto (off := 4) (tgt := 36) X (by decide +kernel) (by decide) ?_
          refine g_sub [] rfl ?_
          exact hJ
        · rw [if_neg c6] at hJ
          refine g_icmp_ne_t (off := 7) (tgt := 35) X (by decide +kernel) (by decide) c6 ?_
          refine g_iconst (n := 0) (x := (0 : Int32)) X (by decide +kernel) (by decide) ?_
          refine g_sub [] rfl ?_
          exact hJ
-- Fate.look
def f9_look (o : Nat) (a1 : Int32) (h : Hp) : Int32 :=
    if a1 = (0 : Int32) then (
    (h.1 o 0))
    else if a1 = (1 : Int32) then (
    (h.1 o 2))
    else if a1 = (2 : Int32) then (
    (h.1 o 3))
    else if a1 = (3 : Int32) then (
    (h.1 o 4))
    else if a1 = (4 : Int32) then (
    (h.1 o 5))
    else if a1 = (5 : Int32) then (
    (h.1 o 6))
    else if a1 = (6 : Int32) then (
    (h.1 o 7))
    else (
    (-2 : Int32))
set_option maxHeartbeats 4000000 in
set_option maxRecDepth 20000 in
theorem c9_look {sp : Sp} {K : Ly} {sz : Nat} (hK : LyOk K) (o : Nat) (a1 : Int32) (h : Hp) (ho : K o = some (.inl 9)) : Con sp y9_look prog_4_method_3_code 2 (some (.int)) 1 0 0 [.ref o, .int a1] sz K h (some (.int (f9_look o a1 h))) sz K h := by
  obtain ⟨v, E⟩ : ∃ v, f9_look o a1 h = v := ⟨_, rfl⟩
  rw [E]
  refine Con.of (by decide) (Nat.le_of_ble_eq_true rfl) (fun Γ X _ => ?_)
  show Go Γ (0, 0) 0 [(0, .ref o), (1, .int a1)] [] sz K h
  unfold f9_look at E
  refine g_iload_n (n := 1) X (by decide +kernel) 1 rfl ?_
  rcases it_E E with ⟨c1, E⟩ | ⟨c1, E⟩
  · refine g_tab_in (dflt := 78) (lo := 0) (hi := 6) (offs := #[43, 48, 53, 58, 63, 68, 73]) (len := 43) (off := 43) (tgt := 44) X (by decide +kernel) (by rw [c1]; decide) (by rw [c1]; decide) (by rw [c1]; decide) (by decide) ?_
    refine g_aload_n (n := 0) X (by decide +kernel) 0 rfl ?_
    refine g_getI X (by decide +kernel) fl9_9 ho ?_
    subst E
    exact g_ireturn X (by decide +kernel)
  · rcases it_E E with ⟨c2, E⟩ | ⟨c2, E⟩
    · refine g_tab_in (dflt := 78) (lo := 0) (hi := 6) (offs := #[43, 48, 53, 58, 63, 68, 73]) (len := 43) (off := 48) (tgt := 49) X (by decide +kernel) (by rw [c2]; decide) (by rw [c2]; decide) (by rw [c2]; decide) (by decide) ?_
      refine g_aload_n (n := 0) X (by decide +kernel) 0 rfl ?_
      refine g_getI X (by decide +kernel) fl9_18 ho ?_
      subst E
      exact g_ireturn X (by decide +kernel)
    · rcases it_E E with ⟨c3, E⟩ | ⟨c3, E⟩
      · refine g_tab_in (dflt := 78) (lo := 0) (hi := 6) (offs := #[43, 48, 53, 58, 63, 68, 73]) (len := 43) (off := 53) (tgt := 54) X (by decide +kernel) (by rw [c3]; decide) (by rw [c3]; decide) (by rw [c3]; decide) (by decide) ?_
        refine g_aload_n (n := 0) X (by decide +kernel) 0 rfl ?_
        refine g_getI X (by decide +kernel) fl9_21 ho ?_
        subst E
        exact g_ireturn X (by decide +kernel)
      · rcases it_E E with ⟨c4, E⟩ | ⟨c4, E⟩
        · refine g_tab_in (dflt := 78) (lo := 0) (hi := 6) (offs := #[43, 48, 53, 58, 63, 68, 73]) (len := 43) (off := 58) (tgt := 59) X (by decide +kernel) (by rw [c4]; decide) (by rw [c4]; decide) (by rw [c4]; decide) (by decide) ?_
          refine g_aload_n (n := 0) X (by decide +kernel) 0 rfl ?_
          refine g_getI X (by decide +kernel) fl9_24 ho ?_
          subst E
          exact g_ireturn X (by decide +kernel)
        · rcases it_E E with ⟨c5, E⟩ | ⟨c5, E⟩
          · refine g_tab_in (dflt := 78) (lo := 0) (hi := 6) (offs := #[43, 48, 53, 58, 63, 68, 73]) (len := 43) (off := 63) (tgt := 64) X (by decide +kernel) (by rw [c5]; decide) (by rw [c5]; decide) (by rw [c5]; decide) (by decide) ?_
            refine g_aload_n (n := 0) X (by decide +kernel) 0 rfl ?_
            refine g_getI X (by decide +kernel) fl9_27 ho ?_
            subst E
            exact g_ireturn X (by decide +kernel)
          · rcases it_E E with ⟨c6, E⟩ | ⟨c6, E⟩
            · refine g_tab_in (dflt := 78) (lo := 0) (hi := 6) (offs := #[43, 48, 53, 58, 63, 68, 73]) (len := 43) (off := 68) (tgt := 69) X (by decide +kernel) (by rw [c6]; decide) (by rw [c6]; decide) (by rw [c6]; decide) (by decide) ?_
              refine g_aload_n (n := 0) X (by decide +kernel) 0 rfl ?_
              refine g_getI X (by decide +kernel) fl9_30 ho ?_
              subst E
              exact g_ireturn X (by decide +kernel)
            · rcases it_E E with ⟨c7, E⟩ | ⟨c7, E⟩
              · refine g_tab_in (dflt := 78) (lo := 0) (hi := 6) (offs := #[43, 48, 53, 58, 63, 68, 73]) (len := 43) (off := 73) (tgt := 74) X (by decide +kernel) (by rw [c7]; decide) (by rw [c7]; decide) (by rw [c7]; decide) (by decide) ?_
                refine g_aload_n (n := 0) X (by decide +kernel) 0 rfl ?_
                refine g_getI X (by decide +kernel) fl9_33 ho ?_
                subst E
                exact g_ireturn X (by decide +kernel)
              · have z8 : a1.toInt < 0 ∨ 6 < a1.toInt := by
                  have z := sw_out (x := a1) 0 6 (by decide) (by decide) (by
                    intro j hj
                    have hj2 : j = 0 ∨ j = 1 ∨ j = 2 ∨ j = 3 ∨ j = 4 ∨ j = 5 ∨ j = 6 := by omega
                    rcases hj2 with rfl | rfl | rfl | rfl | rfl | rfl | rfl
                    · exact c1
                    · exact c2
                    · exact c3
                    · exact c4
                    · exact c5
                    · exact c6
                    · exact c7)
                  simpa using z
                refine g_tab_out (dflt := 78) (lo := 0) (hi := 6) (offs := #[43, 48, 53, 58, 63, 68, 73]) (len := 43) (tgt := 79) X (by decide +kernel) z8 (by decide) ?_
                refine g_bipush (n := -2) (x := (-2 : Int32)) X (by decide +kernel) (by decide) ?_
                subst E
                exact g_ireturn X (by decide +kernel)
