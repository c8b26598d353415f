-- java/util/Arrays.fill
def fJArrays_fill_IIV_L5 (K : Ly) (n : Nat) (a0n : Nat) (x0 : Nat) (x1 : Int32) (x3 : Int32)   : Nat → Int32 → Hp → Option Hp
  | 0, _, _ => none
  | k + 1, x2, h =>
    if x3 ≤ x2 then (
    some h)
    else (
    gd (inb x2 a0n) <|
    lt (sI h x0 x2.toNatClampNeg x1) fun h4 =>
    lt (x2 + (1 : Int32)) fun x2_5 =>
    fJArrays_fill_IIV_L5 K n a0n x0 x1 x3  k x2_5 h4)
def fJArrays_fill_IIV (K : Ly) (n : Nat) (a0 a0n : Nat) (a1 : Int32) (h : Hp) : Option Hp :=
    lt (Int32.ofNat a0n) fun x3_1 =>
    fJArrays_fill_IIV_L5 K n a0n a0 a1 x3_1 n (0 : Int32) h
set_option maxHeartbeats 4000000 in
set_option maxRecDepth 20000 in
theorem wJArrays_fill_IIV_L5 {Γ : CT} {sp : Sp} {K : Ly} {sz n : Nat} {hf : Hp}  (X : Ok Γ sp prog_21_method_103_code "java/util/Arrays" 4 none 1 none sz K hf) (hK : LyOk K) (a0n : Nat) (x0 : Nat) (x1 : Int32) (x3 : Int32)  (px0 : K x0 = some (.inr (0, a0n)))  : ∀ (k : Nat) (x2 : Int32) (h : Hp), fJArrays_fill_IIV_L5 K n a0n x0 x1 x3  k x2 h = some hf → Go Γ (0, 0) 5 [(0, .ref x0), (1, .int x1), (2, .int x2), (3, .int x3)] [] sz K h := by
  intro k
  induction k with
  | zero => intro x2 h E; cases E
  | succ k ih =>
    intro x2 h E
    unfold fJArrays_fill_IIV_L5 at E
    refine g_iload_n (n := 2) X (by decide +kernel) 2 rfl ?_
    refine g_iload_n (n := 3) X (by decide +kernel) 3 rfl ?_
    rcases it_E E with ⟨c2, E⟩ | ⟨c2, E⟩
    · refine g_icmp_ge_t (off := 13) (tgt := 20) X (by decide +kernel) (by decide) c2 ?_
      obtain rfl := Option.some.inj E
      exact g_return X (by decide +kernel)
    · refine g_icmp_ge_f (off := 13) (tgt := 20) X (by decide +kernel) (by decide) c2 ?_
      refine g_aload_n (n := 0) X (by decide +kernel) 0 rfl ?_
      refine g_iload_n (n := 2) X (by decide +kernel) 2 rfl ?_
      refine g_iload_n (n := 1) X (by decide +kernel) 1 rfl ?_
      obtain ⟨c3, E⟩ := gd_E E
      obtain ⟨h4, eh4, E⟩ := lt_E E
      refine g_iast X (by decide +kernel) px0 c3 eh4 ?_
      obtain ⟨x2_5, ex2_5, E⟩ := lt_E E
      refine s_iinc (i := 2) (n := 1) (y := x2_5) X (by decide +kernel) 2 rfl (by decide) ex2_5 (ls_next (by decide) (Or.inr rfl) (ls_next (by decide) (Or.inr rfl) (ls_here (ls_next (by decide) (Or.inr rfl) ls_end)))) ?_
      refine g_goto (off := -12) (tgt := 5) X (by decide +kernel) (by decide) ?_
      exact ih x2_5 h4  E
set_option maxHeartbeats 4000000 in
set_option maxRecDepth 20000 in
theorem cJArrays_fill_IIV {sp : Sp} {K : Ly} {sz n : Nat} (hK : LyOk K) (a0 a0n : Nat) (a1 : Int32) (h : Hp) (ha0 : K a0 = some (.inr (0, a0n))) {hf : Hp} (E : fJArrays_fill_IIV K n a0 a0n a1 h = some hf) : Con sp yJArrays_fill_IIV prog_21_method_103_code 4 none 1 0 0 [.ref a0, .int a1] sz K h none sz K hf := by
  refine Con.of (by decide) (Nat.le_of_ble_eq_true rfl) (fun Γ X _ => ?_)
  show Go Γ (0, 0) 0 [(0, .ref a0), (1, .int a1)] [] sz K h
  unfold fJArrays_fill_IIV at E
  refine g_iconst (n := 0) (x := (0 : Int32)) X (by decide +kernel) (by decide) ?_
  refine s_istore_n (n := 2) (i := 2) X (by decide +kernel) rfl (by decide) rfl (ls_next (by decide) (Or.inr rfl) (ls_next (by decide) (Or.inr rfl) (ls_ins ls_end))) ?_
  refine g_aload_n (n := 0) X (by decide +kernel) 0 rfl ?_
  refine g_alen (x := (Int32.ofNat a0n)) X (by decide +kernel) ha0 ⟨_, rfl⟩ rfl ?_
  obtain ⟨x3_1, ex3_1, E⟩ := lt_E E
  refine s_istore_n (n := 3) (i := 3) X (by decide +kernel) rfl (by decide) ex3_1 (ls_next (by decide) (Or.inr rfl) (ls_next (by decide) (Or.inr rfl) (ls_next (by decide) (Or.inr rfl) (ls_ins ls_end)))) ?_
  exact wJArrays_fill_IIV_L5 X hK a0n a0 a1 x3_1 ha0 n (0 : Int32) h E
-- java/util/Arrays.fill
def fJArrays_fill_JJV_L6 (K : Ly) (n : Nat) (a0n : Nat) (x0 : Nat) (x1 : Int64) (x4 : Int32)   : Nat → Int32 → Hp → Option Hp
  | 0, _, _ => none
  | k + 1, x3, h =>
    if x4 ≤ x3 then (
    some h)
    else (
    gd (inb x3 a0n) <|
    lt (sL h x0 x3.toNatClampNeg x1) fun h4 =>
    lt (x3 + (1 : Int32)) fun x3_5 =>
    fJArrays_fill_JJV_L6 K n a0n x0 x1 x4  k x3_5 h4)
def fJArrays_fill_JJV (K : Ly) (n : Nat) (a0 a0n : Nat) (a1 : Int64) (h : Hp) : Option Hp :=
    lt (Int32.ofNat a0n) fun x4_1 =>
    fJArrays_fill_JJV_L6 K n a0n a0 a1 x4_1 n (0 : Int32) h
set_option maxHeartbeats 4000000 in
set_option maxRecDepth 20000 in
theorem wJArrays_fill_JJV_L6 {Γ : CT} {sp : Sp} {K : Ly} {sz n : Nat} {hf : Hp}  (X : Ok Γ sp prog_21_method_101_code "java/util/Arrays" 5 none 1 none sz K hf) (hK : LyOk K) (a0n : Nat) (x0 : Nat) (x1 : Int64) (x4 : Int32)  (px0 : K x0 = some (.inr (3, a0n)))  : ∀ (k : Nat) (x3 : Int32) (h : Hp), fJArrays_fill_JJV_L6 K n a0n x0 x1 x4  k x3 h = some hf → Go Γ (0, 0) 6 [(0, .ref x0), (1, .long x1), (3, .int x3), (4, .int x4)] [] sz K h := by
  intro k
  induction k with
  | zero => intro x3 h E; cases E
  | succ k ih =>
    intro x3 h E
    unfold fJArrays_fill_JJV_L6 at E
    refine g_iload_n (n := 3) X (by decide +kernel) 2 rfl ?_
    refine g_iload (n := 4) X (by decide +kernel) 3 rfl ?_
    rcases it_E E with ⟨c2, E⟩ | ⟨c2, E⟩
    · refine g_icmp_ge_t (off := 13) (tgt := 22) X (by decide +kernel) (by decide) c2 ?_
      obtain rfl := Option.some.inj E
      exact g_return X (by decide +kernel)
    · refine g_icmp_ge_f (off := 13) (tgt := 22) X (by decide +kernel) (by decide) c2 ?_
      refine g_aload_n (n := 0) X (by decide +kernel) 0 rfl ?_
      refine g_iload_n (n := 3) X (by decide +kernel) 2 rfl ?_
      refine g_lload_n (n := 1) X (by decide +kernel) 1 rfl ?_
      obtain ⟨c3, E⟩ := gd_E E
      obtain ⟨h4, eh4, E⟩ := lt_E E
      refine g_last X (by decide +kernel) px0 c3 eh4 ?_
      obtain ⟨x3_5, ex3_5, E⟩ := lt_E E
      refine s_iinc (i := 3) (n := 1) (y := x3_5) X (by decide +kernel) 2 rfl (by decide) ex3_5 (ls_next (by decide) (Or.inr rfl) (ls_next (by decide) (Or.inl (by decide)) (ls_here (ls_next (by decide) (Or.inr rfl) ls_end)))) ?_
      refine g_goto (off := -13) (tgt := 6) X (by decide +kernel) (by decide) ?_
      exact ih x3_5 h4  E
set_option maxHeartbeats 4000000 in
set_option maxRecDepth 20000 in
theorem cJArrays_fill_JJV {sp : Sp} {K : Ly} {sz n : Nat} (hK : LyOk K) (a0 a0n : Nat) (a1 : Int64) (h : Hp) (ha0 : K a0 = some (.inr (3, a0n))) {hf : Hp} (E : fJArrays_fill_JJV K n a0 a0n a1 h = some hf) : Con sp yJArrays_fill_JJV prog_21_method_101_code 5 none 1 0 0 [.ref a0, .long a1] sz K h none sz K hf := by
  refine Con.of (by decide) (Nat.le_of_ble_eq_true rfl) (fun Γ X _ => ?_)
  show Go Γ (0, 0) 0 [(0, .ref a0), (1, .long a1)] [] sz K h
  unfold fJArrays_fill_JJV at E
  refine g_iconst (n := 0) (x := (0 : Int32)) X (by decide +kernel) (by decide) ?_
  refine s_istore_n (n := 3) (i := 3) X (by decide +kernel) rfl (by decide) rfl (ls_next (by decide) (Or.inr rfl) (ls_next (by decide) (Or.inl (by decide)) (ls_ins ls_end))) ?_
  refine g_aload_n (n := 0) X (by decide +kernel) 0 rfl ?_
  refine g_alen (x := (Int32.ofNat a0n)) X (by decide +kernel) ha0 ⟨_, rfl⟩ rfl ?_
  obtain ⟨x4_1, ex4_1, E⟩ := lt_E E
  refine s_istore (i := 4) X (by decide +kernel) (by decide) ex4_1 (ls_next (by decide) (Or.inr rfl) (ls_next (by decide) (Or.inl (by decide)) (ls_next (by decide) (Or.inr rfl) (ls_ins ls_end)))) ?_
  exact wJArrays_fill_JJV_L6 X hK a0n a0 a1 x4_1 ha0 n (0 : Int32) h E
-- java/lang/Integer.bitCount
def fJInteger_bitCount (a0 : Int32) : Int32 :=
    lt (a0 - (((a0.toUInt32 >>> ((1 : Int32).toUInt32 &&& Int32.toUInt32 31)).toInt32) &&& (1431655765 : Int32))) fun x0_1 =>
    lt ((x0_1 &&& (858993459 : Int32)) + (((x0_1.toUInt32 >>> ((2 : Int32).toUInt32 &&& Int32.toUInt32 31)).toInt32) &&& (858993459 : Int32))) fun x0_2 =>
    lt ((x0_2 + ((x0_2.toUInt32 >>> ((4 : Int32).toUInt32 &&& Int32.toUInt32 31)).toInt32)) &&& (252645135 : Int32)) fun x0_3 =>
    lt (x0_3 + ((x0_3.toUInt32 >>> ((8 : Int32).toUInt32 &&& Int32.toUInt32 31)).toInt32)) fun x0_4 =>
    lt (x0_4 + ((x0_4.toUInt32 >>> ((16 : Int32).toUInt32 &&& Int32.toUInt32 31)).toInt32)) fun x0_5 =>
    (x0_5 &&& (63 : Int32))
set_option maxHeartbeats 4000000 in
set_option maxRecDepth 20000 in
theorem cJInteger_bitCount {sp : Sp} {K : Ly} {sz : Nat} (hK : LyOk K) (a0 : Int32) (h : Hp)  : Con sp yJInteger_bitCount prog_14_method_49_code 1 (some (.int)) 1 0 0 [.int a0] sz K h (some (.int (fJInteger_bitCount a0))) sz K h := by
  obtain ⟨v, E⟩ : ∃ v, fJInteger_bitCount a0 = v := ⟨_, rfl⟩
  rw [E]
  refine Con.of (by decide) (Nat.le_of_ble_eq_true rfl) (fun Γ X _ => ?_)
  show Go Γ (0, 0) 0 [(0, .int a0)] [] sz K h
  unfold fJInteger_bitCount at E
  refine g_iload_n (n := 0) X (by decide +kernel) 0 rfl ?_
  refine g_iload_n (n := 0) X (by decide +kernel) 0 rfl ?_
  refine g_iconst (n := 1) (x := (1 : Int32)) X (by decide +kernel) (by decide) ?_
  refine g_iushr X (by decide +kernel) ?_
  refine g_ldc_w (index := 265) (x := (1431655765 : Int32)) X (by decide +kernel) (in_c4 232 rfl rfl) ?_
  refine g_iand X (by decide +kernel) ?_
  refine g_isub X (by decide +kernel) ?_
  obtain ⟨x0_1, ex0_1, E⟩ := lt_E E
  refine s_istore_n (n := 0) (i := 0) X (by decide +kernel) rfl (by decide) ex0_1 (ls_here ls_end) ?_
  refine g_iload_n (n := 0) X (by decide +kernel) 0 rfl ?_
  refine g_ldc_w (index := 266) (x := (858993459 : Int32)) X (by decide +kernel) (in_c4 233 rfl rfl) ?_
  refine g_iand X (by decide +kernel) ?_
  refine g_iload_n (n := 0) X (by decide +kernel) 0 rfl ?_
  refine g_iconst (n := 2) (x := (2 : Int32)) X (by decide +kernel) (by decide) ?_
  refine g_iushr X (by decide +kernel) ?_
  refine g_ldc_w (index := 266) (x := (858993459 : Int32)) X (by decide +kernel) (in_c4 233 rfl rfl) ?_
  refine g_iand X (by decide +kernel) ?_
  refine g_iadd X (by decide +kernel) ?_
  obtain ⟨x0_2, ex0_2, E⟩ := lt_E E
  refine s_istore_n (n := 0) (i := 0) X (by decide +kernel) rfl (by decide) ex0_2 (ls_here ls_end) ?_
  refine g_iload_n (n := 0) X (by decide +kernel) 0 rfl ?_
  refine g_iload_n (n := 0) X (by decide +kernel) 0 rfl ?_
  refine g_iconst (n := 4) (x := (4 : Int32)) X (by decide +kernel) (by decide) ?_
  refine g_iushr X (by decide +kernel) ?_
  refine g_iadd X (by decide +kernel) ?_
  refine g_ldc_w (index := 267) (x := (252645135 : Int32)) X (by decide +kernel) (in_c4 234 rfl rfl) ?_
  refine g_iand X (by decide +kernel) ?_
  obtain ⟨x0_3, ex0_3, E⟩ := lt_E E
  refine s_istore_n (n := 0) (i := 0) X (by decide +kernel) rfl (by decide) ex0_3 (ls_here ls_end) ?_
  refine g_iload_n (n := 0) X (by decide +kernel) 0 rfl ?_
  refine g_iload_n (n := 0) X (by decide +kernel) 0 rfl ?_
  refine g_bipush (n := 8) (x := (8 : Int32)) X (by decide +kernel) (by decide) ?_
  refine g_iushr X (by decide +kernel) ?_
  refine g_iadd X (by decide +kernel) ?_
  obtain ⟨x0_4, ex0_4, E⟩ := lt_E E
  refine s_istore_n (n := 0) (i := 0) X (by decide +kernel) rfl (by decide) ex0_4 (ls_here ls_end) ?_
  refine g_iload_n (n := 0) X (by decide +kernel) 0 rfl ?_
  refine g_iload_n (n := 0) X (by decide +kernel) 0 rfl ?_
  refine g_bipush (n := 16) (x := (16 : Int32)) X (by decide +kernel) (by decide) ?_
  refine g_iushr X (by decide +kernel) ?_
  refine g_iadd X (by decide +kernel) ?_
  obtain ⟨x0_5, ex0_5, E⟩ := lt_E E
  refine s_istore_n (n := 0) (i := 0) X (by decide +kernel) rfl (by decide) ex0_5 (ls_here ls_end) ?_
  refine g_iload_n (n := 0) X (by decide +kernel) 0 rfl ?_
  refine g_bipush (n := 63) (x := (63 : Int32)) X (by decide +kernel) (by decide) ?_
  refine g_iand X (by decide +kernel) ?_
  subst E
  exact g_ireturn X (by decide +kernel)
-- java/lang/Long.bitCount
def fJLong_bitCount (a0 : Int64) : Int32 :=
    lt (a0 - (((a0.toUInt64 >>> ((1 : Int32).toInt64.toUInt64 &&& Int64.toUInt64 63)).toInt64) &&& (6148914691236517205 : Int64))) fun x0_1 =>
    lt ((x0_1 &&& (3689348814741910323 : Int64)) + (((x0_1.toUInt64 >>> ((2 : Int32).toInt64.toUInt64 &&& Int64.toUInt64 63)).toInt64) &&& (3689348814741910323 : Int64))) fun x0_2 =>
    lt ((x0_2 + ((x0_2.toUInt64 >>> ((4 : Int32).toInt64.toUInt64 &&& Int64.toUInt64 63)).toInt64)) &&& (1085102592571150095 : Int64)) fun x0_3 =>
    lt (x0_3 + ((x0_3.toUInt64 >>> ((8 : Int32).toInt64.toUInt64 &&& Int64.toUInt64 63)).toInt64)) fun x0_4 =>
    lt (x0_4 + ((x0_4.toUInt64 >>> ((16 : Int32).toInt64.toUInt64 &&& Int64.toUInt64 63)).toInt64)) fun x0_5 =>
    lt (x0_5 + ((x0_5.toUInt64 >>> ((32 : Int32).toInt64.toUInt64 &&& Int64.toUInt64 63)).toInt64)) fun x0_6 =>
    ((x0_6.toInt32) &&& (127 : Int32))
set_option maxHeartbeats 4000000 in
set_option maxRecDepth 20000 in
theorem cJLong_bitCount {sp : Sp} {K : Ly} {sz : Nat} (hK : LyOk K) (a0 : Int64) (h : Hp)  : Con sp yJLong_bitCount prog_15_method_50_code 2 (some (.int)) 1 0 0 [.long a0] sz K h (some (.int (fJLong_bitCount a0))) sz K h := by
  obtain ⟨v, E⟩ : ∃ v, fJLong_bitCount a0 = v := ⟨_, rfl⟩
  rw [E]
  refine Con.of (by decide) (Nat.le_of_ble_eq_true rfl) (fun Γ X _ => ?_)
  show Go Γ (0, 0) 0 [(0, .long a0)] [] sz K h
  unfold fJLong_bitCount at E
  refine g_lload_n (n := 0) X (by decide +kernel) 0 rfl ?_
  refine g_lload_n (n := 0) X (by decide +kernel) 0 rfl ?_
  refine g_iconst (n := 1) (x := (1 : Int32)) X (by decide +kernel) (by decide) ?_
  refine g_lushr X (by decide +kernel) ?_
  refine g_ldc2_w (index := 314) (x := (6148914691236517205 : Int64)) X (by decide +kernel) (in_c5 2 rfl rfl) ?_
  refine g_land X (by decide +kernel) ?_
  refine g_lsub X (by decide +kernel) ?_
  obtain ⟨x0_1, ex0_1, E⟩ := lt_E E
  refine s_lstore_n (n := 0) (i := 0) X (by decide +kernel) rfl (by decide) ex0_1 (ls_here ls_end) (by simp) ?_
  refine g_lload_n (n := 0) X (by decide +kernel) 0 rfl ?_
  refine g_ldc2_w (index := 316) (x := (3689348814741910323 : Int64)) X (by decide +kernel) (in_c5 3 rfl rfl) ?_
  refine g_land X (by decide +kernel) ?_
  refine g_lload_n (n := 0) X (by decide +kernel) 0 rfl ?_
  refine g_iconst (n := 2) (x := (2 : Int32)) X (by decide +kernel) (by decide) ?_
  refine g_lushr X (by decide +kernel) ?_
  refine g_ldc2_w (index := 316) (x := (3689348814741910323 : Int64)) X (by decide +kernel) (in_c5 3 rfl rfl) ?_
  refine g_land X (by decide +kernel) ?_
  refine g_ladd X (by decide +kernel) ?_
  obtain ⟨x0_2, ex0_2, E⟩ := lt_E E
  refine s_lstore_n (n := 0) (i := 0) X (by decide +kernel) rfl (by decide) ex0_2 (ls_here ls_end) (by simp) ?_
  refine g_lload_n (n := 0) X (by decide +kernel) 0 rfl ?_
  refine g_lload_n (n := 0) X (by decide +kernel) 0 rfl ?_
  refine g_iconst (n := 4) (x := (4 : Int32)) X (by decide +kernel) (by decide) ?_
  refine g_lushr X (by decide +kernel) ?_
  refine g_ladd X (by decide +kernel) ?_
  refine g_ldc2_w (index := 318) (x := (1085102592571150095 : Int64)) X (by decide +kernel) (in_c5 4 rfl rfl) ?_
  refine g_land X (by decide +kernel) ?_
  obtain ⟨x0_3, ex0_3, E⟩ := lt_E E
  refine s_lstore_n (n := 0) (i := 0) X (by decide +kernel) rfl (by decide) ex0_3 (ls_here ls_end) (by simp) ?_
  refine g_lload_n (n := 0) X (by decide +kernel) 0 rfl ?_
  refine g_lload_n (n := 0) X (by decide +kernel) 0 rfl ?_
  refine g_bipush (n := 8) (x := (8 : Int32)) X (by decide +kernel) (by decide) ?_
  refine g_lushr X (by decide +kernel) ?_
  refine g_ladd X (by decide +kernel) ?_
  obtain ⟨x0_4, ex0_4, E⟩ := lt_E E
  refine s_lstore_n (n := 0) (i := 0) X (by decide +kernel) rfl (by decide) ex0_4 (ls_here ls_end) (by simp) ?_
  refine g_lload_n (n := 0) X (by decide +kernel) 0 rfl ?_
  refine g_lload_n (n := 0) X (by decide +kernel) 0 rfl ?_
  refine g_bipush (n := 16) (x := (16 : Int32)) X (by decide +kernel) (by decide) ?_
  refine g_lushr X (by decide +kernel) ?_
  refine g_ladd X (by decide +kernel) ?_
  obtain ⟨x0_5, ex0_5, E⟩ := lt_E E
  refine s_lstore_n (n := 0) (i := 0) X (by decide +kernel) rfl (by decide) ex0_5 (ls_here ls_end) (by simp) ?_
  refine g_lload_n (n := 0) X (by decide +kernel) 0 rfl ?_
  refine g_lload_n (n := 0) X (by decide +kernel) 0 rfl ?_
  refine g_bipush (n := 32) (x := (32 : Int32)) X (by decide +kernel) (by decide) ?_
  refine g_lushr X (by decide +kernel) ?_
  refine g_ladd X (by decide +kernel) ?_
  obtain ⟨x0_6, ex0_6, E⟩ := lt_E E
  refine s_lstore_n (n := 0) (i := 0) X (by decide +kernel) rfl (by decide) ex0_6 (ls_here ls_end) (by simp) ?_
  refine g_lload_n (n := 0) X (by decide +kernel) 0 rfl ?_
  refine g_l2i X (by decide +kernel) ?_
  refine g_bipush (n := 127) (x := (127 : Int32)) X (by decide +kernel) (by decide) ?_
  refine g_iand X (by decide +kernel) ?_
  subst E
  exact g_ireturn X (by decide +kernel)
