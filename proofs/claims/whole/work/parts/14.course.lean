-- Course.begin
def f10_begin_L56 (K : Ly) (n : Nat) (x0 : Nat)   : Nat → Int32 → Hp → Option Hp
  | 0, _, _ => none
  | k + 1, x3, h =>
    if (6 : Int32) ≤ x3 then (
    some h)
    else (
    gd (inb x3 6) <|
    ob (h.2.2 (x0 + 20) x3.toNatClampNeg) K 8 fun o15 =>
    lt (sI h o15 0 (0 : Int32)) fun h16 =>
    lt (x3 + (1 : Int32)) fun x3_17 =>
    f10_begin_L56 K n x0  k x3_17 h16)
def f10_begin (K : Ly) (n : Nat) (o : Nat) (a1 : Nat) (a2 : Int32) (h : Hp) : Option Hp :=
    lt (sR h o 0 (some a1)) fun h1 =>
    lt (sI h1 o 1 a2) fun h2 =>
    lt (sI h2 o 2 (0 : Int32)) fun h3 =>
    lt (sI h3 o 3 (0 : Int32)) fun h4 =>
    lt (sI h4 o 6 (0 : Int32)) fun h5 =>
    lt (sI h5 o 8 (0 : Int32)) fun h6 =>
    bp (fJArrays_fill_IIV K n (o + 18) 36 (-1 : Int32) h6) fun h8 =>
    bp (fJArrays_fill_JJV K n (o + 19) 6 (0 : Int64) h8) fun h10 =>
    bp (fJArrays_fill_IIV K n (o + 22) 7 (0 : Int32) h10) fun h12 =>
    f10_begin_L56 K n o n (0 : Int32) h12
set_option maxHeartbeats 4000000 in
set_option maxRecDepth 20000 in
theorem w10_begin_L56 {Γ : CT} {sp : Sp} {K : Ly} {sz n : Nat} {hf : Hp}  (X : Ok Γ sp prog_2_method_2_code Rc10 4 none 2 none sz K hf) (hK : LyOk K) (x0 : Nat)  (px0 : K x0 = some (.inl 10))  : ∀ (k : Nat) (x3 : Int32) (h : Hp), f10_begin_L56 K n x0  k x3 h = some hf → Go Γ (0, 0) 56 [(0, .ref x0), (3, .int x3)] [] sz K h := by
  intro k
  induction k with
  | zero => intro x3 h E; cases E
  | succ k ih =>
    intro x3 h E
    unfold f10_begin_L56 at E
    refine g_iload_n (n := 3) X (by decide +kernel) 1 rfl ?_
    refine g_bipush (n := 6) (x := (6 : Int32)) X (by decide +kernel) (by decide) ?_
    rcases it_E E with ⟨c13, E⟩ | ⟨c13, E⟩
    · refine g_icmp_ge_t (off := 19) (tgt := 78) X (by decide +kernel) (by decide) c13 ?_
      obtain rfl := Option.some.inj E
      exact g_return X (by decide +kernel)
    · refine g_icmp_ge_f (off := 19) (tgt := 78) X (by decide +kernel) (by decide) c13 ?_
      refine g_aload_n (n := 0) X (by decide +kernel) 0 rfl ?_
      refine g_getS X (by decide +kernel) fl10_67 px0 ?_
      refine g_iload_n (n := 3) X (by decide +kernel) 1 rfl ?_
      obtain ⟨c14, E⟩ := gd_E E
      obtain ⟨o15, qo15, po15, E⟩ := ob_E E
      refine g_aald (C := "AskedNames$Store") X (by decide +kernel) (ly hK px0 fl10_67 rfl) rfl rfl c14 qo15 ?_
      refine g_iconst (n := 0) (x := (0 : Int32)) X (by decide +kernel) (by decide) ?_
      obtain ⟨h16, eh16, E⟩ := lt_E E
      refine g_putI X (by decide +kernel) fp10_92 po15 eh16 ?_
      obtain ⟨x3_17, ex3_17, E⟩ := lt_E E
      refine s_iinc (i := 3) (n := 1) (y := x3_17) X (by decide +kernel) 1 rfl (by decide) ex3_17 (ls_next (by decide) (Or.inr rfl) (ls_here ls_end)) ?_
      refine g_goto (off := -19) (tgt := 56) X (by decide +kernel) (by decide) ?_
      exact ih x3_17 h16  E
set_option maxHeartbeats 4000000 in
set_option maxRecDepth 20000 in
theorem c10_begin {sp : Sp} {K : Ly} {sz n : Nat} (hK : LyOk K) (o : Nat) (a1 : Nat) (a2 : Int32) (h : Hp) (ho : K o = some (.inl 10)) (ha1 : K a1 = some (.inl 2)) {hf : Hp} (E : f10_begin K n o a1 a2 h = some hf) : Con sp y10_begin prog_2_method_2_code 4 none 2 0 0 [.ref o, .ref a1, .int a2] sz K h none sz K hf := by
  refine Con.of (by decide) (Nat.le_of_ble_eq_true rfl) (fun Γ X _ => ?_)
  show Go Γ (0, 0) 0 [(0, .ref o), (1, .ref a1), (2, .int a2)] [] sz K h
  unfold f10_begin at E
  refine g_aload_n (n := 0) X (by decide +kernel) 0 rfl ?_
  refine g_aload_n (n := 1) X (by decide +kernel) 1 rfl ?_
  obtain ⟨h1, eh1, E⟩ := lt_E E
  refine g_putR X (by decide +kernel) fp10_12 rfl rfl ho eh1 ?_
  refine g_aload_n (n := 0) X (by decide +kernel) 0 rfl ?_
  refine g_iload_n (n := 2) X (by decide +kernel) 2 rfl ?_
  obtain ⟨h2, eh2, E⟩ := lt_E E
  refine g_putI X (by decide +kernel) fp10_18 ho eh2 ?_
  refine g_aload_n (n := 0) X (by decide +kernel) 0 rfl ?_
  refine g_iconst (n := 0) (x := (0 : Int32)) X (by decide +kernel) (by decide) ?_
  obtain ⟨h3, eh3, E⟩ := lt_E E
  refine g_putI X (by decide +kernel) fp10_22 ho eh3 ?_
  refine g_aload_n (n := 0) X (by decide +kernel) 0 rfl ?_
  refine g_iconst (n := 0) (x := (0 : Int32)) X (by decide +kernel) (by decide) ?_
  obtain ⟨h4, eh4, E⟩ := lt_E E
  refine g_putI X (by decide +kernel) fp10_25 ho eh4 ?_
  refine g_aload_n (n := 0) X (by decide +kernel) 0 rfl ?_
  refine g_iconst (n := 0) (x := (0 : Int32)) X (by decide +kernel) (by decide) ?_
  obtain ⟨h5, eh5, E⟩ := lt_E E
  refine g_putI X (by decide +kernel) fp10_37 ho eh5 ?_
  refine g_aload_n (n := 0) X (by decide +kernel) 0 rfl ?_
  refine g_iconst (n := 0) (x := (0 : Int32)) X (by decide +kernel) (by decide) ?_
  obtain ⟨h6, eh6, E⟩ := lt_E E
  refine g_putI X (by decide +kernel) fp10_46 ho eh6 ?_
  refine g_aload_n (n := 0) X (by decide +kernel) 0 rfl ?_
  refine g_getS X (by decide +kernel) fl10_57 ho ?_
  refine g_iconst (n := -1) (x := (-1 : Int32)) X (by decide +kernel) (by decide) ?_
  obtain ⟨h8, e7, E⟩ := bp_E E
  refine g_callS0 (st := []) X [.ref (o + 18), .int (-1 : Int32)] (by decide +kernel) ml10_83 (by decide) (Nat.le_of_ble_eq_true rfl) (cJArrays_fill_IIV hK (o + 18) 36 (-1 : Int32) h6 (ly hK ho fl10_57 rfl) e7) ?_
  refine g_aload_n (n := 0) X (by decide +kernel) 0 rfl ?_
  refine g_getS X (by decide +kernel) fl10_61 ho ?_
  refine g_lconst (n := 0) (x := (0 : Int64)) X (by decide +kernel) (by decide) ?_
  obtain ⟨h10, e9, E⟩ := bp_E E
  refine g_callS0 (st := []) X [.ref (o + 19), .long (0 : Int64)] (by decide +kernel) ml10_89 (by decide) (Nat.le_of_ble_eq_true rfl) (cJArrays_fill_JJV hK (o + 19) 6 (0 : Int64) h8 (ly hK ho fl10_61 rfl) e9) ?_
  refine g_aload_n (n := 0) X (by decide +kernel) 0 rfl ?_
  refine g_getS X (by decide +kernel) fl10_77 ho ?_
  refine g_iconst (n := 0) (x := (0 : Int32)) X (by decide +kernel) (by decide) ?_
  obtain ⟨h12, e11, E⟩ := bp_E E
  refine g_callS0 (st := []) X [.ref (o + 22), .int (0 : Int32)] (by decide +kernel) ml10_83 (by decide) (Nat.le_of_ble_eq_true rfl) (cJArrays_fill_IIV hK (o + 22) 7 (0 : Int32) h10 (ly hK ho fl10_77 rfl) e11) ?_
  refine g_iconst (n := 0) (x := (0 : Int32)) X (by decide +kernel) (by decide) ?_
  refine s_istore_n (n := 3) (i := 3) X (by decide +kernel) rfl (by decide) rfl (ls_next (by decide) (Or.inr rfl) (ls_next (by decide) (Or.inr rfl) (ls_next (by decide) (Or.inr rfl) (ls_ins ls_end)))) ?_
  refine g_sub [0, 3] rfl ?_
  exact w10_begin_L56 X hK o ho n (0 : Int32) h12 E
-- Course.find
def f10_find_L3 (K : Ly) (n : Nat) (x0 : Nat) (x1 : Int32) (x2 : Int32) (x3 : Int32) (h : Hp)  : Nat → Int32 → Option (Int32)
  | 0, _ => none
  | k + 1, x4 =>
    if (h.1 x0 6) ≤ x4 then (
    some (-1 : Int32))
    else (
    gd (inb x4 360) <|
    ob (h.2.2 (x0 + 14) x4.toNatClampNeg) K 6 fun o3 =>
    if (h.1 o3 0) = x1 then (
    if (h.1 o3 1) = x2 then (
    if (h.1 o3 2) = x3 then (
    some x4)
    else (
    lt (x4 + (1 : Int32)) fun x4_7 =>
    f10_find_L3 K n x0 x1 x2 x3 h  k x4_7))
    else (
    lt (x4 + (1 : Int32)) fun x4_8 =>
    f10_find_L3 K n x0 x1 x2 x3 h  k x4_8))
    else (
    lt (x4 + (1 : Int32)) fun x4_9 =>
    f10_find_L3 K n x0 x1 x2 x3 h  k x4_9))
def f10_find (K : Ly) (n : Nat) (o : Nat) (a1 : Int32) (a2 : Int32) (a3 : Int32) (h : Hp) : Option (Int32) :=
    f10_find_L3 K n o a1 a2 a3 h n (0 : Int32)
set_option maxHeartbeats 4000000 in
set_option maxRecDepth 20000 in
theorem w10_find_L3 {Γ : CT} {sp : Sp} {K : Ly} {sz n : Nat} {v : Int32} {h : Hp}  (X : Ok Γ sp prog_2_method_31_code Rc10 6 (some (.int)) 1 (some (.int v)) sz K h) (hK : LyOk K) (x0 : Nat) (x1 : Int32) (x2 : Int32) (x3 : Int32)  (px0 : K x0 = some (.inl 10))  : ∀ (k : Nat) (x4 : Int32), f10_find_L3 K n x0 x1 x2 x3 h  k x4 = some v → Go Γ (0, 0) 3 [(0, .ref x0), (1, .int x1), (2, .int x2), (3, .int x3), (4, .int x4)] [] sz K h := by
  intro k
  induction k with
  | zero => intro x4 E; cases E
  | succ k ih =>
    intro x4 E
    unfold f10_find_L3 at E
    refine g_iload (n := 4) X (by decide +kernel) 4 rfl ?_
    refine g_aload_n (n := 0) X (by decide +kernel) 0 rfl ?_
    refine g_getI X (by decide +kernel) fl10_37 px0 ?_
    rcases it_E E with ⟨c1, E⟩ | ⟨c1, E⟩
    · refine g_icmp_ge_t (off := 48) (tgt := 57) X (by decide +kernel) (by decide) c1 ?_
      refine g_iconst (n := -1) (x := (-1 : Int32)) X (by decide +kernel) (by decide) ?_
      obtain rfl := Option.some.inj E
      exact g_ireturn X (by decide +kernel)
    · refine g_icmp_ge_f (off := 48) (tgt := 57) X (by decide +kernel) (by decide) c1 ?_
      refine g_aload_n (n := 0) X (by decide +kernel) 0 rfl ?_
      refine g_getS X (by decide +kernel) fl10_33 px0 ?_
      refine g_iload (n := 4) X (by decide +kernel) 4 rfl ?_
      obtain ⟨c2, E⟩ := gd_E E
      obtain ⟨o3, qo3, po3, E⟩ := ob_E E
      refine g_aald (C := "AskedNames$Entry") X (by decide +kernel) (ly hK px0 fl10_33 rfl) rfl rfl c2 qo3 ?_
      refine s_astore (i := 5) X (by decide +kernel) (by decide) rfl (ls_next (by decide) (Or.inr rfl) (ls_next (by decide) (Or.inr rfl) (ls_next (by decide) (Or.inr rfl) (ls_next (by decide) (Or.inr rfl) (ls_next (by decide) (Or.inr rfl) (ls_ins ls_end)))))) ?_
      refine g_aload (n := 5) X (by decide +kernel) 5 rfl ?_
      refine g_getI X (by decide +kernel) fl10_213 po3 ?_
      refine g_iload_n (n := 1) X (by decide +kernel) 1 rfl ?_
      rcases it_E E with ⟨c4, E⟩ | ⟨c4, E⟩
      · refine g_icmp_ne_f (off := 24) (tgt := 51) X (by decide +kernel) (by decide) (fun z => z c4) ?_
        refine g_aload (n := 5) X (by decide +kernel) 5 rfl ?_
        refine g_getI X (by decide +kernel) fl10_274 po3 ?_
        refine g_iload_n (n := 2) X (by decide +kernel) 2 rfl ?_
        rcases it_E E with ⟨c5, E⟩ | ⟨c5, E⟩
        · refine g_icmp_ne_f (off := 15) (tgt := 51) X (by decide +kernel) (by decide) (fun z => z c5) ?_
          refine g_aload (n := 5) X (by decide +kernel) 5 rfl ?_
          refine g_getI X (by decide +kernel) fl10_275 po3 ?_
          refine g_iload_n (n := 3) X (by decide +kernel) 3 rfl ?_
          rcases it_E E with ⟨c6, E⟩ | ⟨c6, E⟩
          · refine g_icmp_ne_f (off := 6) (tgt := 51) X (by decide +kernel) (by decide) (fun z => z c6) ?_
            refine g_iload (n := 4) X (by decide +kernel) 4 rfl ?_
            obtain rfl := Option.some.inj E
            exact g_ireturn X (by decide +kernel)
          · refine g_icmp_ne_t (off := 6) (tgt := 51) X (by decide +kernel) (by decide) c6 ?_
            obtain ⟨x4_7, ex4_7, E⟩ := lt_E E
            refine s_iinc (i := 4) (n := 1) (y := x4_7) X (by decide +kernel) 4 rfl (by decide) ex4_7 (ls_next (by decide) (Or.inr rfl) (ls_next (by decide) (Or.inr rfl) (ls_next (by decide) (Or.inr rfl) (ls_next (by decide) (Or.inr rfl) (ls_here (ls_next (by decide) (Or.inr rfl) ls_end)))))) ?_
            refine g_goto (off := -51) (tgt := 3) X (by decide +kernel) (by decide) ?_
            refine g_sub [0, 1, 2, 3, 4] rfl ?_
            exact ih x4_7  E
        · refine g_icmp_ne_t (off := 15) (tgt := 51) X (by decide +kernel) (by decide) c5 ?_
          obtain ⟨x4_8, ex4_8, E⟩ := lt_E E
          refine s_iinc (i := 4) (n := 1) (y := x4_8) X (by decide +kernel) 4 rfl (by decide) ex4_8 (ls_next (by decide) (Or.inr rfl) (ls_next (by decide) (Or.inr rfl) (ls_next (by decide) (Or.inr rfl) (ls_next (by decide) (Or.inr rfl) (ls_here (ls_next (by decide) (Or.inr rfl) ls_end)))))) ?_
          refine g_goto (off := -51) (tgt := 3) X (by decide +kernel) (by decide) ?_
          refine g_sub [0, 1, 2, 3, 4] rfl ?_
          exact ih x4_8  E
      · refine g_icmp_ne_t (off := 24) (tgt := 51) X (by decide +kernel) (by decide) c4 ?_
        obtain ⟨x4_9, ex4_9, E⟩ := lt_E E
        refine s_iinc (i := 4) (n := 1) (y := x4_9) X (by decide +kernel) 4 rfl (by decide) ex4_9 (ls_next (by decide) (Or.inr rfl) (ls_next (by decide) (Or.inr rfl) (ls_next (by decide) (Or.inr rfl) (ls_next (by decide) (Or.inr rfl) (ls_here (ls_next (by decide) (Or.inr rfl) ls_end)))))) ?_
        refine g_goto (off := -51) (tgt := 3) X (by decide +kernel) (by decide) ?_
        refine g_sub [0, 1, 2, 3, 4] rfl ?_
        exact ih x4_9  E
set_option maxHeartbeats 4000000 in
set_option maxRecDepth 20000 in
theorem c10_find {sp : Sp} {K : Ly} {sz n : Nat} (hK : LyOk K) (o : Nat) (a1 : Int32) (a2 : Int32) (a3 : Int32) (h : Hp) (ho : K o = some (.inl 10)) {v : Int32} (E : f10_find K n o a1 a2 a3 h = some v) : Con sp y10_find prog_2_method_31_code 6 (some (.int)) 1 0 0 [.ref o, .int a1, .int a2, .int a3] sz K h (some (.int v)) sz K h := by
  refine Con.of (by decide) (Nat.le_of_ble_eq_true rfl) (fun Γ X _ => ?_)
  show Go Γ (0, 0) 0 [(0, .ref o), (1, .int a1), (2, .int a2), (3, .int a3)] [] sz K h
  unfold f10_find at E
  refine g_iconst (n := 0) (x := (0 : Int32)) X (by decide +kernel) (by decide) ?_
  refine s_istore (i := 4) X (by decide +kernel) (by decide) rfl (ls_next (by decide) (Or.inr rfl) (ls_next (by decide) (Or.inr rfl) (ls_next (by decide) (Or.inr rfl) (ls_next (by decide) (Or.inr rfl) (ls_ins ls_end))))) ?_
  exact w10_find_L3 X hK o a1 a2 a3 ho n (0 : Int32) E
-- Course.sayNack
def f10_sayNack (K : Ly) (n : Nat) (o : Nat) (a1 : Int32) (a2 : Int32) (a3 : Int32) (a4 : Int32) (h : Hp) : Option Hp :=
    lt (sI h (o + 17) 0 (2 : Int32)) fun h1 =>
    lt (sI h1 (o + 17) 4 a1) fun h2 =>
    lt (sI h2 (o + 17) 5 a2) fun h3 =>
    lt (sI h3 (o + 17) 11 (1 : Int32)) fun h4 =>
    lt (sI h4 (o + 17) 12 a3) fun h5 =>
    lt (sI h5 (o + 17) 13 a4) fun h6 =>
    some h6
set_option maxHeartbeats 4000000 in
set_option maxRecDepth 20000 in
theorem c10_sayNack {sp : Sp} {K : Ly} {sz n : Nat} (hK : LyOk K) (o : Nat) (a1 : Int32) (a2 : Int32) (a3 : Int32) (a4 : Int32) (h : Hp) (ho : K o = some (.inl 10)) {hf : Hp} (E : f10_sayNack K n o a1 a2 a3 a4 h = some hf) : Con sp y10_sayNack prog_2_method_30_code 5 none 1 0 0 [.ref o, .int a1, .int a2, .int a3, .int a4] sz K h none sz K hf := by
  refine Con.of (by decide) (Nat.le_of_ble_eq_true rfl) (fun Γ X _ => ?_)
  show Go Γ (0, 0) 0 [(0, .ref o), (1, .int a1), (2, .int a2), (3, .int a3), (4, .int a4)] [] sz K h
  unfold f10_sayNack at E
  refine g_aload_n (n := 0) X (by decide +kernel) 0 rfl ?_
  refine g_getS X (by decide +kernel) fl10_54 ho ?_
  refine g_iconst (n := 2) (x := (2 : Int32)) X (by decide +kernel) (by decide) ?_
  obtain ⟨h1, eh1, E⟩ := lt_E E
  refine g_putI X (by decide +kernel) fp10_184 (ly hK ho fl10_54 rfl) eh1 ?_
  refine g_aload_n (n := 0) X (by decide +kernel) 0 rfl ?_
  refine g_getS X (by decide +kernel) fl10_54 ho ?_
  refine g_iload_n (n := 1) X (by decide +kernel) 1 rfl ?_
  obtain ⟨h2, eh2, E⟩ := lt_E E
  refine g_putI X (by decide +kernel) fp10_198 (ly hK ho fl10_54 rfl) eh2 ?_
  refine g_aload_n (n := 0) X (by decide +kernel) 0 rfl ?_
  refine g_getS X (by decide +kernel) fl10_54 ho ?_
  refine g_iload_n (n := 2) X (by decide +kernel) 2 rfl ?_
  obtain ⟨h3, eh3, E⟩ := lt_E E
  refine g_putI X (by decide +kernel) fp10_201 (ly hK ho fl10_54 rfl) eh3 ?_
  refine g_aload_n (n := 0) X (by decide +kernel) 0 rfl ?_
  refine g_getS X (by decide +kernel) fl10_54 ho ?_
  refine g_iconst (n := 1) (x := (1 : Int32)) X (by decide +kernel) (by decide) ?_
  obtain ⟨h4, eh4, E⟩ := lt_E E
  refine g_putI X (by decide +kernel) fp10_342 (ly hK ho fl10_54 rfl) eh4 ?_
  refine g_aload_n (n := 0) X (by decide +kernel) 0 rfl ?_
  refine g_getS X (by decide +kernel) fl10_54 ho ?_
  refine g_iload_n (n := 3) X (by decide +kernel) 3 rfl ?_
  obtain ⟨h5, eh5, E⟩ := lt_E E
  refine g_putI X (by decide +kernel) fp10_357 (ly hK ho fl10_54 rfl) eh5 ?_
  refine g_aload_n (n := 0) X (by decide +kernel) 0 rfl ?_
  refine g_getS X (by decide +kernel) fl10_54 ho ?_
  refine g_iload (n := 4) X (by decide +kernel) 4 rfl ?_
  obtain ⟨h6, eh6, E⟩ := lt_E E
  refine g_putI X (by decide +kernel) fp10_361 (ly hK ho fl10_54 rfl) eh6 ?_
  obtain rfl := Option.some.inj E
  exact g_return X (by decide +kernel)
-- Course.settle
def f10_settle (K : Ly) (n : Nat) (o : Nat) (a1 : Int32) (h : Hp) : Option Hp :=
    gd (inb a1 60) <|
    ob (h.2.2 (o + 21) a1.toNatClampNeg) K 9 fun o2 =>
    lt (sI h o2 2 (h.1 o 2)) fun h3 =>
    if (h3.1 (o + 17) 0) = (1 : Int32) then (
    lt (sI h3 o2 0 (1 : Int32)) fun h5 =>
    lt (sI h5 o2 3 (h5.1 (o + 17) 9)) fun h6 =>
    lt (sI h6 o2 4 (h6.1 (o + 17) 10)) fun h7 =>
    some h7)
    else (
    lt (sI h3 o2 0 (2 : Int32)) fun h8 =>
    lt (sI h8 o2 5 (h8.1 (o + 17) 11)) fun h9 =>
    lt (sI h9 o2 6 (h9.1 (o + 17) 12)) fun h10 =>
    lt (sI h10 o2 7 (h10.1 (o + 17) 13)) fun h11 =>
    some h11)
set_option maxHeartbeats 4000000 in
set_option maxRecDepth 20000 in
theorem c10_settle {sp : Sp} {K : Ly} {sz n : Nat} (hK : LyOk K) (o : Nat) (a1 : Int32) (h : Hp) (ho : K o = some (.inl 10)) {hf : Hp} (E : f10_settle K n o a1 h = some hf) : Con sp y10_settle prog_2_method_26_code 3 none 1 0 0 [.ref o, .int a1] sz K h none sz K hf := by
  refine Con.of (by decide) (Nat.le_of_ble_eq_true rfl) (fun Γ X _ => ?_)
  show Go Γ (0, 0) 0 [(0, .ref o), (1, .int a1)] [] sz K h
  unfold f10_settle at E
  refine g_aload_n (n := 0) X (by decide +kernel) 0 rfl ?_
  refine g_getS X (by decide +kernel) fl10_73 ho ?_
  refine g_iload_n (n := 1) X (by decide +kernel) 1 rfl ?_
  obtain ⟨c1, E⟩ := gd_E E
  obtain ⟨o2, qo2, po2, E⟩ := ob_E E
  refine g_aald (C := "AskedNames$Fate") X (by decide +kernel) (ly hK ho fl10_73 rfl) rfl rfl c1 qo2 ?_
  refine s_astore_n (n := 2) (i := 2) X (by decide +kernel) rfl (by decide) rfl (ls_next (by decide) (Or.inr rfl) (ls_next (by decide) (Or.inr rfl) (ls_ins ls_end))) ?_
  refine g_aload_n (n := 2) X (by decide +kernel) 2 rfl ?_
  refine g_aload_n (n := 0) X (by decide +kernel) 0 rfl ?_
  refine g_getI X (by decide +kernel) fl10_22 ho ?_
  obtain ⟨h3, eh3, E⟩ := lt_E E
  refine g_putI X (by decide +kernel) fp10_226 po2 eh3 ?_
  refine g_aload_n (n := 0) X (by decide +kernel) 0 rfl ?_
  refine g_getS X (by decide +kernel) fl10_54 ho ?_
  refine g_getI X (by decide +kernel) fl10_184 (ly hK ho fl10_54 rfl) ?_
  refine g_iconst (n := 1) (x := (1 : Int32)) X (by decide +kernel) (by decide) ?_
  rcases it_E E with ⟨c4, E⟩ | ⟨c4, E⟩
  · refine g_icmp_ne_f (off := 33) (tgt := 56) X (by decide +kernel) (by decide) (fun z => z c4) ?_
    refine g_aload_n (n := 2) X (by decide +kernel) 2 rfl ?_
    refine g_iconst (n := 1) (x := (1 : Int32)) X (by decide +kernel) (by decide) ?_
    obtain ⟨h5, eh5, E⟩ := lt_E E
    refine g_putI X (by decide +kernel) fp10_223 po2 eh5 ?_
    refine g_aload_n (n := 2) X (by decide +kernel) 2 rfl ?_
    refine g_aload_n (n := 0) X (by decide +kernel) 0 rfl ?_
    refine g_getS X (by decide +kernel) fl10_54 ho ?_
    refine g_getI X (by decide +kernel) fl10_348 (ly hK ho fl10_54 rfl) ?_
    obtain ⟨h6, eh6, E⟩ := lt_E E
    refine g_putI X (by decide +kernel) fp10_351 po2 eh6 ?_
    refine g_aload_n (n := 2) X (by decide +kernel) 2 rfl ?_
    refine g_aload_n (n := 0) X (by decide +kernel) 0 rfl ?_
    refine g_getS X (by decide +kernel) fl10_54 ho ?_
    refine g_getI X (by decide +kernel) fl10_352 (ly hK ho fl10_54 rfl) ?_
    obtain ⟨h7, eh7, E⟩ := lt_E E
    refine g_putI X (by decide +kernel) fp10_355 po2 eh7 ?_
    refine g_goto (off := 41) (tgt := 94) X (by decide +kernel) (by decide) ?_
    obtain rfl := Option.some.inj E
    exact g_return X (by decide +kernel)
  · refine g_icmp_ne_t (off := 33) (tgt := 56) X (by decide +kernel) (by decide) c4 ?_
    refine g_aload_n (n := 2) X (by decide +kernel) 2 rfl ?_
    refine g_iconst (n := 2) (x := (2 : Int32)) X (by decide +kernel) (by decide) ?_
    obtain ⟨h8, eh8, E⟩ := lt_E E
    refine g_putI X (by decide +kernel) fp10_223 po2 eh8 ?_
    refine g_aload_n (n := 2) X (by decide +kernel) 2 rfl ?_
    refine g_aload_n (n := 0) X (by decide +kernel) 0 rfl ?_
    refine g_getS X (by decide +kernel) fl10_54 ho ?_
    refine g_getI X (by decide +kernel) fl10_342 (ly hK ho fl10_54 rfl) ?_
    obtain ⟨h9, eh9, E⟩ := lt_E E
    refine g_putI X (by decide +kernel) fp10_356 po2 eh9 ?_
    refine g_aload_n (n := 2) X (by decide +kernel) 2 rfl ?_
    refine g_aload_n (n := 0) X (by decide +kernel) 0 rfl ?_
    refine g_getS X (by decide +kernel) fl10_54 ho ?_
    refine g_getI X (by decide +kernel) fl10_357 (ly hK ho fl10_54 rfl) ?_
    obtain ⟨h10, eh10, E⟩ := lt_E E
    refine g_putI X (by decide +kernel) fp10_360 po2 eh10 ?_
    refine g_aload_n (n := 2) X (by decide +kernel) 2 rfl ?_
    refine g_aload_n (n := 0) X (by decide +kernel) 0 rfl ?_
    refine g_getS X (by decide +kernel) fl10_54 ho ?_
    refine g_getI X (by decide +kernel) fl10_361 (ly hK ho fl10_54 rfl) ?_
    obtain ⟨h11, eh11, E⟩ := lt_E E
    refine g_putI X (by decide +kernel) fp10_364 po2 eh11 ?_
    obtain rfl := Option.some.inj E
    exact g_return X (by decide +kernel)
-- Course.isUp
def f10_isUp (o : Nat) (a1 : Int32) (h : Hp) : Int32 :=
    (if a1 = (-1 : Int32) then (0 : Int32) else (if a1 = (h.1 o 1) then (0 : Int32) else (if ((h.1 o 3) &&& ((1 : Int32) <<< (a1 &&& 31))) = 0 then (1 : Int32) else (0 : Int32))))
set_option maxHeartbeats 4000000 in
set_option maxRecDepth 20000 in
theorem c10_isUp {sp : Sp} {K : Ly} {sz : Nat} (hK : LyOk K) (o : Nat) (a1 : Int32) (h : Hp) (ho : K o = some (.inl 10)) : Con sp y10_isUp prog_2_method_18_code 2 (some (.boolean)) 1 0 0 [.ref o, .int a1] sz K h (some (.int (f10_isUp o a1 h))) sz K h := by
  obtain ⟨v, E⟩ : ∃ v, f10_isUp o a1 h = v := ⟨_, rfl⟩
  rw [E]
  refine Con.of (by decide) (Nat.le_of_ble_eq_true rfl) (fun Γ X _ => ?_)
  show Go Γ (0, 0) 0 [(0, .ref o), (1, .int a1)] [] sz K h
  unfold f10_isUp at E
  refine g_iload_n (n := 1) X (by decide +kernel) 1 rfl ?_
  refine g_iconst (n := -1) (x := (-1 : Int32)) X (by decide +kernel) (by decide) ?_
  have hJ : Go Γ (0, 0) 29 [] [.int (if a1 = (-1 : Int32) then (0 : Int32) else (if a1 = (h.1 o 1) then (0 : Int32) else (if ((h.1 o 3) &&& ((1 : Int32) <<< (a1 &&& 31))) = 0 then (1 : Int32) else (0 : Int32))))] sz K h := by
    subst E
    exact g_zreturn X (by decide +kernel) (by (repeat' split) <;> rfl)
  clear E
  by_cases c1 : a1 = (-1 : Int32)
  · rw [if_pos c1] at hJ
    refine g_icmp_eq_t (off := 26) (tgt := 28) X (by decide +kernel) (by decide) c1 ?_
    refine g_iconst (n := 0) (x := (0 : Int32)) X (by decide +kernel) (by decide) ?_
    refine g_sub [] rfl ?_
    exact hJ
  · rw [if_neg c1] at hJ
    refine g_icmp_eq_f (off := 26) (tgt := 28) X (by decide +kernel) (by decide) c1 ?_
    refine g_iload_n (n := 1) X (by decide +kernel) 1 rfl ?_
    refine g_aload_n (n := 0) X (by decide +kernel) 0 rfl ?_
    refine g_getI X (by decide +kernel) fl10_18 ho ?_
    by_cases c2 : a1 = (h.1 o 1)
    · rw [if_pos c2] at hJ
      refine g_icmp_eq_t (off := 18) (tgt := 28) X (by decide +kernel) (by decide) c2 ?_
      refine g_iconst (n := 0) (x := (0 : Int32)) X (by decide +kernel) (by decide) ?_
      refine g_sub [] rfl ?_
      exact hJ
    · rw [if_neg c2] at hJ
      refine g_icmp_eq_f (off := 18) (tgt := 28) X (by decide +kernel) (by decide) c2 ?_
      refine g_aload_n (n := 0) X (by decide +kernel) 0 rfl ?_
      refine g_getI X (by decide +kernel) fl10_25 ho ?_
      refine g_iconst (n := 1) (x := (1 : Int32)) X (by decide +kernel) (by decide) ?_
      refine g_iload_n (n := 1) X (by decide +kernel) 1 rfl ?_
      refine g_ishl X (by decide +kernel) ?_
      refine g_iand X (by decide +kernel) ?_
      by_cases c3 : ((h.1 o 3) &&& ((1 : Int32) <<< (a1 &&& 31))) = 0
      · rw [if_pos c3] at hJ
        refine g_if_ne_f (off := 7) (tgt := 28) X (by decide +kernel) (by decide) (fun z => z c3) ?_
        refine g_iconst (n := 1) (x := (1 : Int32)) X (by decide +kernel) (by decide) ?_
        refine g_goto (off := 4) (tgt := 29) X (by decide +kernel) (by decide) ?_
        refine g_sub [] rfl ?_
        exact hJ
      · rw [if_neg c3] at hJ
        refine g_if_ne_t (off := 7) (tgt := 28) X (by decide +kernel) (by decide) c3 ?_
        refine g_iconst (n := 0) (x := (0 : Int32)) X (by decide +kernel) (by decide) ?_
        refine g_sub [] rfl ?_
        exact hJ
-- Course.send
def f10_send (K : Ly) (n : Nat) (o : Nat) (a1 : Int32) (a2 : Int32) (h : Hp) : Option Hp :=
    ob (h.2.2 o 0) K 2 fun o1 =>
    gd (inb ((a1 * (6 : Int32)) + a2) 36) <|
    lt (h.1 (o1 + 5) ((a1 * (6 : Int32)) + a2).toNatClampNeg) fun x3_3 =>
    if (f10_isUp o x3_3 h) = 0 then (
    lt (sI h (o + 22) (5 : Int32).toNatClampNeg ((h.1 (o + 22) (5 : Int32).toNatClampNeg) + (1 : Int32))) fun h5 =>
    some h5)
    else (
    if (360 : Int32) ≤ (h.1 o 8) then (
    some h)
    else (
    gd (inb (h.1 o 8) 360) <|
    ob (h.2.2 (o + 15) (h.1 o 8).toNatClampNeg) K 7 fun o8 =>
    bp (f7_copy K n o8 (o + 17) h) fun h10 =>
    lt (sI h10 o8 1 a1) fun h11 =>
    lt (sI h11 o8 2 a2) fun h12 =>
    ob (h12.2.2 o 0) K 2 fun o13 =>
    gd (inb x3_3 15) <|
    lt (sI h12 o8 3 ((h12.1 o 2) + (h12.1 (o13 + 4) x3_3.toNatClampNeg))) fun h15 =>
    lt (sI h15 o 8 ((h15.1 o 8) + (1 : Int32))) fun h16 =>
    lt (sI h16 (o + 22) (0 : Int32).toNatClampNeg ((h16.1 (o + 22) (0 : Int32).toNatClampNeg) + (1 : Int32))) fun h17 =>
    some h17))
set_option maxHeartbeats 4000000 in
set_option maxRecDepth 20000 in
theorem c10_send {sp : Sp} {K : Ly} {sz n : Nat} (hK : LyOk K) (o : Nat) (a1 : Int32) (a2 : Int32) (h : Hp) (ho : K o = some (.inl 10)) {hf : Hp} (E : f10_send K n o a1 a2 h = some hf) : Con sp y10_send prog_2_method_27_code 5 none 2 0 0 [.ref o, .int a1, .int a2] sz K h none sz K hf := by
  refine Con.of (by decide) (Nat.le_of_ble_eq_true rfl) (fun Γ X _ => ?_)
  show Go Γ (0, 0) 0 [(0, .ref o), (1, .int a1), (2, .int a2)] [] sz K h
  unfold f10_send at E
  refine g_aload_n (n := 0) X (by decide +kernel) 0 rfl ?_
  obtain ⟨o1, qo1, po1, E⟩ := ob_E E
  refine g_getR X (by decide +kernel) fl10_12 ho qo1 ?_
  refine g_getS X (by decide +kernel) fl10_313 po1 ?_
  refine g_iload_n (n := 1) X (by decide +kernel) 1 rfl ?_
  refine g_bipush (n := 6) (x := (6 : Int32)) X (by decide +kernel) (by decide) ?_
  refine g_imul X (by decide +kernel) ?_
  refine g_iload_n (n := 2) X (by decide +kernel) 2 rfl ?_
  refine g_iadd X (by decide +kernel) ?_
  obtain ⟨c2, E⟩ := gd_E E
  refine g_iald X (by decide +kernel) (ly hK po1 fl10_313 rfl) c2 ?_
  obtain ⟨x3_3, ex3_3, E⟩ := lt_E E
  refine s_istore_n (n := 3) (i := 3) X (by decide +kernel) rfl (by decide) ex3_3 (ls_next (by decide) (Or.inr rfl) (ls_next (by decide) (Or.inr rfl) (ls_next (by decide) (Or.inr rfl) (ls_ins ls_end)))) ?_
  refine g_aload_n (n := 0) X (by decide +kernel) 0 rfl ?_
  refine g_iload_n (n := 3) X (by decide +kernel) 3 rfl ?_
  refine g_callV1 (st := []) X [.int x3_3] (by decide +kernel) ml10_316 ho rfl rfl (by decide) (Nat.le_of_ble_eq_true rfl) (c10_isUp hK o x3_3 h ho) ?_
  rcases it_E E with ⟨c4, E⟩ | ⟨c4, E⟩
  · refine g_if_ne_f (off := 14) (tgt := 34) X (by decide +kernel) (by decide) (fun z => z c4) ?_
    refine g_aload_n (n := 0) X (by decide +kernel) 0 rfl ?_
    refine g_getS X (by decide +kernel) fl10_77 ho ?_
    refine g_iconst (n := 5) (x := (5 : Int32)) X (by decide +kernel) (by decide) ?_
    refine g_dup2 X (by decide +kernel) rfl rfl ?_
    refine g_iald X (by decide +kernel) (ly hK ho fl10_77 rfl) (by decide) ?_
    refine g_iconst (n := 1) (x := (1 : Int32)) X (by decide +kernel) (by decide) ?_
    refine g_iadd X (by decide +kernel) ?_
    obtain ⟨h5, eh5, E⟩ := lt_E E
    refine g_iast X (by decide +kernel) (ly hK ho fl10_77 rfl) (by decide) eh5 ?_
    obtain rfl := Option.some.inj E
    exact g_return X (by decide +kernel)
  · refine g_if_ne_t (off := 14) (tgt := 34) X (by decide +kernel) (by decide) c4 ?_
    refine g_aload_n (n := 0) X (by decide +kernel) 0 rfl ?_
    refine g_getI X (by decide +kernel) fl10_46 ho ?_
    refine g_sipush (n := 360) (x := (360 : Int32)) X (by decide +kernel) (by decide) ?_
    rcases it_E E with ⟨c6, E⟩ | ⟨c6, E⟩
    · refine g_icmp_ge_t (off := 74) (tgt := 115) X (by decide +kernel) (by decide) c6 ?_
      obtain rfl := Option.some.inj E
      exact g_return X (by decide +kernel)
    · refine g_icmp_ge_f (off := 74) (tgt := 115) X (by decide +kernel) (by decide) c6 ?_
      refine g_aload_n (n := 0) X (by decide +kernel) 0 rfl ?_
      refine g_getS X (by decide +kernel) fl10_42 ho ?_
      refine g_aload_n (n := 0) X (by decide +kernel) 0 rfl ?_
      refine g_getI X (by decide +kernel) fl10_46 ho ?_
      obtain ⟨c7, E⟩ := gd_E E
      obtain ⟨o8, qo8, po8, E⟩ := ob_E E
      refine g_aald (C := "AskedNames$Message") X (by decide +kernel) (ly hK ho fl10_42 rfl) rfl rfl c7 qo8 ?_
      refine s_astore (i := 4) X (by decide +kernel) (by decide) rfl (ls_next (by decide) (Or.inr rfl) (ls_next (by decide) (Or.inr rfl) (ls_next (by decide) (Or.inr rfl) (ls_next (by decide) (Or.inr rfl) (ls_ins ls_end))))) ?_
      refine g_aload (n := 4) X (by decide +kernel) 4 rfl ?_
      refine g_aload_n (n := 0) X (by decide +kernel) 0 rfl ?_
      refine g_getS X (by decide +kernel) fl10_54 ho ?_
      obtain ⟨h10, e9, E⟩ := bp_E E
      refine g_callV0 (st := []) X [.ref (o + 17)] (by decide +kernel) ml10_235 po8 rfl rfl (by decide) (Nat.le_of_ble_eq_true rfl) (c7_copy hK o8 (o + 17) h po8 (ly hK ho fl10_54 rfl) e9) ?_
      refine g_aload (n := 4) X (by decide +kernel) 4 rfl ?_
      refine g_iload_n (n := 1) X (by decide +kernel) 1 rfl ?_
      obtain ⟨h11, eh11, E⟩ := lt_E E
      refine g_putI X (by decide +kernel) fp10_195 po8 eh11 ?_
      refine g_aload (n := 4) X (by decide +kernel) 4 rfl ?_
      refine g_iload_n (n := 2) X (by decide +kernel) 2 rfl ?_
      obtain ⟨h12, eh12, E⟩ := lt_E E
      refine g_putI X (by decide +kernel) fp10_192 po8 eh12 ?_
      refine g_aload (n := 4) X (by decide +kernel) 4 rfl ?_
      refine g_aload_n (n := 0) X (by decide +kernel) 0 rfl ?_
      refine g_getI X (by decide +kernel) fl10_22 ho ?_
      refine g_aload_n (n := 0) X (by decide +kernel) 0 rfl ?_
      obtain ⟨o13, qo13, po13, E⟩ := ob_E E
      refine g_getR X (by decide +kernel) fl10_12 ho qo13 ?_
      refine g_getS X (by decide +kernel) fl10_365 po13 ?_
      refine g_iload_n (n := 3) X (by decide +kernel) 3 rfl ?_
      obtain ⟨c14, E⟩ := gd_E E
      refine g_iald X (by decide +kernel) (ly hK po13 fl10_365 rfl) c14 ?_
      refine g_iadd X (by decide +kernel) ?_
      obtain ⟨h15, eh15, E⟩ := lt_E E
      refine g_putI X (by decide +kernel) fp10_178 po8 eh15 ?_
      refine g_aload_n (n := 0) X (by decide +kernel) 0 rfl ?_
      refine g_dup X (by decide +kernel) rfl ?_
      refine g_getI X (by decide +kernel) fl10_46 ho ?_
      refine g_iconst (n := 1) (x := (1 : Int32)) X (by decide +kernel) (by decide) ?_
      refine g_iadd X (by decide +kernel) ?_
      obtain ⟨h16, eh16, E⟩ := lt_E E
      refine g_putI X (by decide +kernel) fp10_46 ho eh16 ?_
      refine g_aload_n (n := 0) X (by decide +kernel) 0 rfl ?_
      refine g_getS X (by decide +kernel) fl10_77 ho ?_
      refine g_iconst (n := 0) (x := (0 : Int32)) X (by decide +kernel) (by decide) ?_
      refine g_dup2 X (by decide +kernel) rfl rfl ?_
      refine g_iald X (by decide +kernel) (ly hK ho fl10_77 rfl) (by decide) ?_
      refine g_iconst (n := 1) (x := (1 : Int32)) X (by decide +kernel) (by decide) ?_
      refine g_iadd X (by decide +kernel) ?_
      obtain ⟨h17, eh17, E⟩ := lt_E E
      refine g_iast X (by decide +kernel) (ly hK ho fl10_77 rfl) (by decide) eh17 ?_
      obtain rfl := Option.some.inj E
      exact g_return X (by decide +kernel)
-- Course.answer
def f10_answer (K : Ly) (n : Nat) (o : Nat) (a1 : Int32) (a2 : Int32) (a3 : Int32) (h : Hp) : Option Hp :=
    if a2 = (-1 : Int32) then (
    bp (f10_settle K n o a3 h) fun h3 =>
    some h3)
    else (
    bp (f10_send K n o a1 a2 h) fun h5 =>
    some h5)
set_option maxHeartbeats 4000000 in
set_option maxRecDepth 20000 in
theorem c10_answer {sp : Sp} {K : Ly} {sz n : Nat} (hK : LyOk K) (o : Nat) (a1 : Int32) (a2 : Int32) (a3 : Int32) (h : Hp) (ho : K o = some (.inl 10)) {hf : Hp} (E : f10_answer K n o a1 a2 a3 h = some hf) : Con sp y10_answer prog_2_method_25_code 4 none 3 0 0 [.ref o, .int a1, .int a2, .int a3] sz K h none sz K hf := by
  refine Con.of (by decide) (Nat.le_of_ble_eq_true rfl) (fun Γ X _ => ?_)
  show Go Γ (0, 0) 0 [(0, .ref o), (1, .int a1), (2, .int a2), (3, .int a3)] [] sz K h
  unfold f10_answer at E
  refine g_iload_n (n := 2) X (by decide +kernel) 2 rfl ?_
  refine g_iconst (n := -1) (x := (-1 : Int32)) X (by decide +kernel) (by decide) ?_
  rcases it_E E with ⟨c1, E⟩ | ⟨c1, E⟩
  · refine g_icmp_ne_f (off := 11) (tgt := 13) X (by decide +kernel) (by decide) (fun z => z c1) ?_
    refine g_aload_n (n := 0) X (by decide +kernel) 0 rfl ?_
    refine g_iload_n (n := 3) X (by decide +kernel) 3 rfl ?_
    obtain ⟨h3, e2, E⟩ := bp_E E
    refine g_callV0 (st := []) X [.int a3] (by decide +kernel) ml10_345 ho rfl rfl (by decide) (Nat.le_of_ble_eq_true rfl) (c10_settle hK o a3 h ho e2) ?_
    refine g_goto (off := 9) (tgt := 19) X (by decide +kernel) (by decide) ?_
    obtain rfl := Option.some.inj E
    exact g_return X (by decide +kernel)
  · refine g_icmp_ne_t (off := 11) (tgt := 13) X (by decide +kernel) (by decide) c1 ?_
    refine g_aload_n (n := 0) X (by decide +kernel) 0 rfl ?_
    refine g_iload_n (n := 1) X (by decide +kernel) 1 rfl ?_
    refine g_iload_n (n := 2) X (by decide +kernel) 2 rfl ?_
    obtain ⟨h5, e4, E⟩ := bp_E E
    refine g_callV0 (st := []) X [.int a1, .int a2] (by decide +kernel) ml10_295 ho rfl rfl (by decide) (Nat.le_of_ble_eq_true rfl) (c10_send hK o a1 a2 h ho e4) ?_
    obtain rfl := Option.some.inj E
    exact g_return X (by decide +kernel)
-- Course.sayStored
def f10_sayStored (K : Ly) (n : Nat) (o : Nat) (a1 : Nat) (a2 : Int32) (a3 : Int32) (h : Hp) : Option Hp :=
    lt (sI h (o + 17) 0 (1 : Int32)) fun h1 =>
    gd (inb a2 4) <|
    lt (sI h1 (o + 17) 4 (h1.1 (a1 + 1) a2.toNatClampNeg)) fun h3 =>
    gd (inb a2 4) <|
    lt (sI h3 (o + 17) 7 (h3.1 (a1 + 2) a2.toNatClampNeg)) fun h5 =>
    gd (inb a2 4) <|
    lt (sI h5 (o + 17) 8 (h5.1 (a1 + 3) a2.toNatClampNeg)) fun h7 =>
    lt (sI h7 (o + 17) 9 a3) fun h8 =>
    lt (sI h8 (o + 17) 10 (1 : Int32)) fun h9 =>
    some h9
set_option maxHeartbeats 4000000 in
set_option maxRecDepth 20000 in
theorem c10_sayStored {sp : Sp} {K : Ly} {sz n : Nat} (hK : LyOk K) (o : Nat) (a1 : Nat) (a2 : Int32) (a3 : Int32) (h : Hp) (ho : K o = some (.inl 10)) (ha1 : K a1 = some (.inl 8)) {hf : Hp} (E : f10_sayStored K n o a1 a2 a3 h = some hf) : Con sp y10_sayStored prog_2_method_28_code 4 none 1 0 0 [.ref o, .ref a1, .int a2, .int a3] sz K h none sz K hf := by
  refine Con.of (by decide) (Nat.le_of_ble_eq_true rfl) (fun Γ X _ => ?_)
  show Go Γ (0, 0) 0 [(0, .ref o), (1, .ref a1), (2, .int a2), (3, .int a3)] [] sz K h
  unfold f10_sayStored at E
  refine g_aload_n (n := 0) X (by decide +kernel) 0 rfl ?_
  refine g_getS X (by decide +kernel) fl10_54 ho ?_
  refine g_iconst (n := 1) (x := (1 : Int32)) X (by decide +kernel) (by decide) ?_
  obtain ⟨h1, eh1, E⟩ := lt_E E
  refine g_putI X (by decide +kernel) fp10_184 (ly hK ho fl10_54 rfl) eh1 ?_
  refine g_aload_n (n := 0) X (by decide +kernel) 0 rfl ?_
  refine g_getS X (by decide +kernel) fl10_54 ho ?_
  refine g_aload_n (n := 1) X (by decide +kernel) 1 rfl ?_
  refine g_getS X (by decide +kernel) fl10_368 ha1 ?_
  refine g_iload_n (n := 2) X (by decide +kernel) 2 rfl ?_
  obtain ⟨c2, E⟩ := gd_E E
  refine g_iald X (by decide +kernel) (ly hK ha1 fl10_368 rfl) c2 ?_
  obtain ⟨h3, eh3, E⟩ := lt_E E
  refine g_putI X (by decide +kernel) fp10_198 (ly hK ho fl10_54 rfl) eh3 ?_
  refine g_aload_n (n := 0) X (by decide +kernel) 0 rfl ?_
  refine g_getS X (by decide +kernel) fl10_54 ho ?_
  refine g_aload_n (n := 1) X (by decide +kernel) 1 rfl ?_
  refine g_getS X (by decide +kernel) fl10_245 ha1 ?_
  refine g_iload_n (n := 2) X (by decide +kernel) 2 rfl ?_
  obtain ⟨c4, E⟩ := gd_E E
  refine g_iald X (by decide +kernel) (ly hK ha1 fl10_245 rfl) c4 ?_
  obtain ⟨h5, eh5, E⟩ := lt_E E
  refine g_putI X (by decide +kernel) fp10_322 (ly hK ho fl10_54 rfl) eh5 ?_
  refine g_aload_n (n := 0) X (by decide +kernel) 0 rfl ?_
  refine g_getS X (by decide +kernel) fl10_54 ho ?_
  refine g_aload_n (n := 1) X (by decide +kernel) 1 rfl ?_
  refine g_getS X (by decide +kernel) fl10_370 ha1 ?_
  refine g_iload_n (n := 2) X (by decide +kernel) 2 rfl ?_
  obtain ⟨c6, E⟩ := gd_E E
  refine g_iald X (by decide +kernel) (ly hK ha1 fl10_370 rfl) c6 ?_
  obtain ⟨h7, eh7, E⟩ := lt_E E
  refine g_putI X (by decide +kernel) fp10_373 (ly hK ho fl10_54 rfl) eh7 ?_
  refine g_aload_n (n := 0) X (by decide +kernel) 0 rfl ?_
  refine g_getS X (by decide +kernel) fl10_54 ho ?_
  refine g_iload_n (n := 3) X (by decide +kernel) 3 rfl ?_
  obtain ⟨h8, eh8, E⟩ := lt_E E
  refine g_putI X (by decide +kernel) fp10_348 (ly hK ho fl10_54 rfl) eh8 ?_
  refine g_aload_n (n := 0) X (by decide +kernel) 0 rfl ?_
  refine g_getS X (by decide +kernel) fl10_54 ho ?_
  refine g_iconst (n := 1) (x := (1 : Int32)) X (by decide +kernel) (by decide) ?_
  obtain ⟨h9, eh9, E⟩ := lt_E E
  refine g_putI X (by decide +kernel) fp10_352 (ly hK ho fl10_54 rfl) eh9 ?_
  obtain rfl := Option.some.inj E
  exact g_return X (by decide +kernel)
-- Course.sayServed
def f10_sayServed (K : Ly) (n : Nat) (o : Nat) (a1 : Int32) (a2 : Int32) (a3 : Int32) (h : Hp) : Option Hp :=
    lt (sI h (o + 17) 0 (1 : Int32)) fun h1 =>
    lt (sI h1 (o + 17) 4 a1) fun h2 =>
    lt (sI h2 (o + 17) 7 a2) fun h3 =>
    lt (sI h3 (o + 17) 8 a3) fun h4 =>
    lt (sI h4 (o + 17) 9 a3) fun h5 =>
    lt (sI h5 (o + 17) 10 (0 : Int32)) fun h6 =>
    some h6
set_option maxHeartbeats 4000000 in
set_option maxRecDepth 20000 in
theorem c10_sayServed {sp : Sp} {K : Ly} {sz n : Nat} (hK : LyOk K) (o : Nat) (a1 : Int32) (a2 : Int32) (a3 : Int32) (h : Hp) (ho : K o = some (.inl 10)) {hf : Hp} (E : f10_sayServed K n o a1 a2 a3 h = some hf) : Con sp y10_sayServed prog_2_method_29_code 4 none 1 0 0 [.ref o, .int a1, .int a2, .int a3] sz K h none sz K hf := by
  refine Con.of (by decide) (Nat.le_of_ble_eq_true rfl) (fun Γ X _ => ?_)
  show Go Γ (0, 0) 0 [(0, .ref o), (1, .int a1), (2, .int a2), (3, .int a3)] [] sz K h
  unfold f10_sayServed at E
  refine g_aload_n (n := 0) X (by decide +kernel) 0 rfl ?_
  refine g_getS X (by decide +kernel) fl10_54 ho ?_
  refine g_iconst (n := 1) (x := (1 : Int32)) X (by decide +kernel) (by decide) ?_
  obtain ⟨h1, eh1, E⟩ := lt_E E
  refine g_putI X (by decide +kernel) fp10_184 (ly hK ho fl10_54 rfl) eh1 ?_
  refine g_aload_n (n := 0) X (by decide +kernel) 0 rfl ?_
  refine g_getS X (by decide +kernel) fl10_54 ho ?_
  refine g_iload_n (n := 1) X (by decide +kernel) 1 rfl ?_
  obtain ⟨h2, eh2, E⟩ := lt_E E
  refine g_putI X (by decide +kernel) fp10_198 (ly hK ho fl10_54 rfl) eh2 ?_
  refine g_aload_n (n := 0) X (by decide +kernel) 0 rfl ?_
  refine g_getS X (by decide +kernel) fl10_54 ho ?_
  refine g_iload_n (n := 2) X (by decide +kernel) 2 rfl ?_
  obtain ⟨h3, eh3, E⟩ := lt_E E
  refine g_putI X (by decide +kernel) fp10_322 (ly hK ho fl10_54 rfl) eh3 ?_
  refine g_aload_n (n := 0) X (by decide +kernel) 0 rfl ?_
  refine g_getS X (by decide +kernel) fl10_54 ho ?_
  refine g_iload_n (n := 3) X (by decide +kernel) 3 rfl ?_
  obtain ⟨h4, eh4, E⟩ := lt_E E
  refine g_putI X (by decide +kernel) fp10_373 (ly hK ho fl10_54 rfl) eh4 ?_
  refine g_aload_n (n := 0) X (by decide +kernel) 0 rfl ?_
  refine g_getS X (by decide +kernel) fl10_54 ho ?_
  refine g_iload_n (n := 3) X (by decide +kernel) 3 rfl ?_
  obtain ⟨h5, eh5, E⟩ := lt_E E
  refine g_putI X (by decide +kernel) fp10_348 (ly hK ho fl10_54 rfl) eh5 ?_
  refine g_aload_n (n := 0) X (by decide +kernel) 0 rfl ?_
  refine g_getS X (by decide +kernel) fl10_54 ho ?_
  refine g_iconst (n := 0) (x := (0 : Int32)) X (by decide +kernel) (by decide) ?_
  obtain ⟨h6, eh6, E⟩ := lt_E E
  refine g_putI X (by decide +kernel) fp10_352 (ly hK ho fl10_54 rfl) eh6 ?_
  obtain rfl := Option.some.inj E
  exact g_return X (by decide +kernel)
-- Course.isMet
def f10_isMet_J124 (K : Ly) (n : Nat)  (x0 : Nat) (x1 : Int32) (x2 : Int32) (x3 : Int32) (x4 : Int32) (x5 : Int32) (h : Hp) : Option (Int32 × Hp) :=
    lt (sI h (x0 + 22) (3 : Int32).toNatClampNeg ((h.1 (x0 + 22) (3 : Int32).toNatClampNeg) + (1 : Int32))) fun h48 =>
    bp (f10_sayNack K n x0 x3 x4 (2 : Int32) x1 h48) fun h50 =>
    bp (f10_answer K n x0 x1 x2 x5 h50) fun h52 =>
    some ((1 : Int32), h52)
def f10_isMet_J90 (K : Ly) (n : Nat)  (x0 : Nat) (x1 : Int32) (x2 : Int32) (x3 : Int32) (x4 : Int32) (x5 : Int32) (x6 : Int32) (x7 : Int32) (x8 : Int32) (s0 : Int32) (h : Hp) : Option (Int32 × Hp) :=
    ob (h.2.2 x0 0) K 2 fun o17 =>
    bp (f2_serving K n o17 x1 x3 h) fun y19 =>
    if x7 = 0 then (
    gd (inb x1 6) <|
    if (lg_cmp ((h.2.1 (x0 + 19) x1.toNatClampNeg) &&& ((1 : Int64) <<< (x5.toInt64 &&& 63))) (0 : Int64)) = 0 then (
    if s0 = 0 then (
    if y19 = (-1 : Int32) then (
    if x6 = (-1 : Int32) then (
    some ((0 : Int32), h))
    else (
    lt (sI h (x0 + 22) (2 : Int32).toNatClampNeg ((h.1 (x0 + 22) (2 : Int32).toNatClampNeg) + (1 : Int32))) fun h26 =>
    gd (inb x6 360) <|
    ob (h26.2.2 (x0 + 14) x6.toNatClampNeg) K 6 fun o28 =>
    bp (f6_join K n o28 x2 x5 h26) fun h30 =>
    some ((1 : Int32), h30)))
    else (
    ob (h.2.2 x0 0) K 2 fun o31 =>
    gd (inb y19 6) <|
    bp (f10_sayServed K n x0 x3 ((h.1 x0 2) + (h.1 (o31 + 12) y19.toNatClampNeg)) x1 h) fun h34 =>
    bp (f10_answer K n x0 x1 x2 x5 h34) fun h36 =>
    some ((1 : Int32), h36)))
    else (
    lt (sI h (x0 + 22) (1 : Int32).toNatClampNeg ((h.1 (x0 + 22) (1 : Int32).toNatClampNeg) + (1 : Int32))) fun h37 =>
    gd (inb x1 6) <|
    ob (h37.2.2 (x0 + 20) x1.toNatClampNeg) K 8 fun o39 =>
    bp (f10_sayStored K n x0 o39 x8 x1 h37) fun h41 =>
    gd (inb x1 6) <|
    ob (h41.2.2 (x0 + 20) x1.toNatClampNeg) K 8 fun o43 =>
    bp (f8_use K n o43 x8 h41) fun h45 =>
    bp (f10_answer K n x0 x1 x2 x5 h45) fun h47 =>
    some ((1 : Int32), h47)))
    else (
    f10_isMet_J124 K n x0 x1 x2 x3 x4 x5 h))
    else (
    f10_isMet_J124 K n x0 x1 x2 x3 x4 x5 h)
def f10_isMet_J85 (K : Ly) (n : Nat)  (x0 : Nat) (x1 : Int32) (x2 : Int32) (x3 : Int32) (x4 : Int32) (x5 : Int32) (x6 : Int32) (x7 : Int32) (x8 : Int32) (h : Hp) : Option (Int32 × Hp) :=
    f10_isMet_J90 K n x0 x1 x2 x3 x4 x5 x6 x7 x8 (1 : Int32) h
def f10_isMet_J89 (K : Ly) (n : Nat)  (x0 : Nat) (x1 : Int32) (x2 : Int32) (x3 : Int32) (x4 : Int32) (x5 : Int32) (x6 : Int32) (x7 : Int32) (x8 : Int32) (h : Hp) : Option (Int32 × Hp) :=
    f10_isMet_J90 K n x0 x1 x2 x3 x4 x5 x6 x7 x8 (0 : Int32) h
def f10_isMet_J41 (K : Ly) (n : Nat)  (x0 : Nat) (x1 : Int32) (x2 : Int32) (x3 : Int32) (x4 : Int32) (x5 : Int32) (x6 : Int32) (s0 : Int32) (h : Hp) : Option (Int32 × Hp) :=
    gd (inb x1 6) <|
    ob (h.2.2 (x0 + 20) x1.toNatClampNeg) K 8 fun o8 =>
    bp (f8_find K n o8 x3 h) fun y10 =>
    if y10 = (-1 : Int32) then (
    f10_isMet_J89 K n x0 x1 x2 x3 x4 x5 x6 s0 y10 h)
    else (
    if x4 = 0 then (
    f10_isMet_J85 K n x0 x1 x2 x3 x4 x5 x6 s0 y10 h)
    else (
    gd (inb x1 6) <|
    ob (h.2.2 (x0 + 20) x1.toNatClampNeg) K 8 fun o14 =>
    gd (inb y10 4) <|
    f10_isMet_J90 K n x0 x1 x2 x3 x4 x5 x6 s0 y10 (if (h.1 (o14 + 2) y10.toNatClampNeg) < (h.1 x0 2) then (0 : Int32) else (1 : Int32)) h))
def f10_isMet_J40 (K : Ly) (n : Nat)  (x0 : Nat) (x1 : Int32) (x2 : Int32) (x3 : Int32) (x4 : Int32) (x5 : Int32) (x6 : Int32) (h : Hp) : Option (Int32 × Hp) :=
    f10_isMet_J41 K n x0 x1 x2 x3 x4 x5 x6 (0 : Int32) h
def f10_isMet (K : Ly) (n : Nat) (o : Nat) (a1 : Int32) (a2 : Int32) (a3 : Int32) (a4 : Int32) (a5 : Int32) (h : Hp) : Option (Int32 × Hp) :=
    bp (f10_find K n o a1 a3 a4 h) fun y2 =>
    if y2 = (-1 : Int32) then (
    f10_isMet_J40 K n o a1 a2 a3 a4 a5 y2 h)
    else (
    gd (inb y2 360) <|
    ob (h.2.2 (o + 14) y2.toNatClampNeg) K 6 fun o5 =>
    f10_isMet_J41 K n o a1 a2 a3 a4 a5 y2 (if (lg_cmp ((h.2.1 o5 5) &&& ((1 : Int64) <<< (a5.toInt64 &&& 63))) (0 : Int64)) = 0 then (0 : Int32) else (1 : Int32)) h)
set_option maxHeartbeats 4000000 in
set_option maxRecDepth 20000 in
theorem w10_isMet_J124 {Γ : CT} {sp : Sp} {K : Ly} {sz n : Nat} {v : Int32} {hf : Hp}   (X : Ok Γ sp prog_2_method_14_code Rc10 11 (some (.boolean)) 4 (some (.int v)) sz K hf) (hK : LyOk K) (x0 : Nat) (x1 : Int32) (x2 : Int32) (x3 : Int32) (x4 : Int32) (x5 : Int32) (h : Hp)  (px0 : K x0 = some (.inl 10)) (E : f10_isMet_J124 K n x0 x1 x2 x3 x4 x5 h = some (v, hf)) : Go Γ (0, 0) 124 [(0, .ref x0), (1, .int x1), (2, .int x2), (3, .int x3), (4, .int x4), (5, .int x5)] [] sz K h := by
  unfold f10_isMet_J124 at E
  refine g_aload_n (n := 0) X (by decide +kernel) 0 rfl ?_
  refine g_getS X (by decide +kernel) fl10_77 px0 ?_
  refine g_iconst (n := 3) (x := (3 : Int32)) X (by decide +kernel) (by decide) ?_
  refine g_dup2 X (by decide +kernel) rfl rfl ?_
  refine g_iald X (by decide +kernel) (ly hK px0 fl10_77 rfl) (by decide) ?_
  refine g_iconst (n := 1) (x := (1 : Int32)) X (by decide +kernel) (by decide) ?_
  refine g_iadd X (by decide +kernel) ?_
  obtain ⟨h48, eh48, E⟩ := lt_E E
  refine g_iast X (by decide +kernel) (ly hK px0 fl10_77 rfl) (by decide) eh48 ?_
  refine g_aload_n (n := 0) X (by decide +kernel) 0 rfl ?_
  refine g_iload_n (n := 3) X (by decide +kernel) 3 rfl ?_
  refine g_iload (n := 4) X (by decide +kernel) 4 rfl ?_
  refine g_iconst (n := 2) (x := (2 : Int32)) X (by decide +kernel) (by decide) ?_
  refine g_iload_n (n := 1) X (by decide +kernel) 1 rfl ?_
  obtain ⟨h50, e49, E⟩ := bp_E E
  refine g_callV0 (st := []) X [.int x3, .int x4, .int (2 : Int32), .int x1] (by decide +kernel) ml10_251 px0 rfl rfl (by decide) (Nat.le_of_ble_eq_true rfl) (c10_sayNack hK x0 x3 x4 (2 : Int32) x1 h48 px0 e49) ?_
  refine g_aload_n (n := 0) X (by decide +kernel) 0 rfl ?_
  refine g_iload_n (n := 1) X (by decide +kernel) 1 rfl ?_
  refine g_iload_n (n := 2) X (by decide +kernel) 2 rfl ?_
  refine g_iload (n := 5) X (by decide +kernel) 5 rfl ?_
  obtain ⟨h52, e51, E⟩ := bp_E E
  refine g_callV0 (st := []) X [.int x1, .int x2, .int x5] (by decide +kernel) ml10_254 px0 rfl rfl (by decide) (Nat.le_of_ble_eq_true rfl) (c10_answer hK x0 x1 x2 x5 h50 px0 e51) ?_
  refine g_goto (off := 125) (tgt := 276) X (by decide +kernel) (by decide) ?_
  refine g_iconst (n := 1) (x := (1 : Int32)) X (by decide +kernel) (by decide) ?_
  obtain ⟨rfl, rfl⟩ := rt_E E
  exact g_zreturn X (by decide +kernel) rfl
set_option maxHeartbeats 4000000 in
set_option maxRecDepth 20000 in
theorem w10_isMet_J90 {Γ : CT} {sp : Sp} {K : Ly} {sz n : Nat} {v : Int32} {hf : Hp}   (X : Ok Γ sp prog_2_method_14_code Rc10 11 (some (.boolean)) 4 (some (.int v)) sz K hf) (hK : LyOk K) (x0 : Nat) (x1 : Int32) (x2 : Int32) (x3 : Int32) (x4 : Int32) (x5 : Int32) (x6 : Int32) (x7 : Int32) (x8 : Int32) (s0 : Int32) (h : Hp)  (px0 : K x0 = some (.inl 10)) (E : f10_isMet_J90 K n x0 x1 x2 x3 x4 x5 x6 x7 x8 s0 h = some (v, hf)) : Go Γ (0, 0) 90 [(0, .ref x0), (1, .int x1), (2, .int x2), (3, .int x3), (4, .int x4), (5, .int x5), (6, .int x6), (7, .int x7), (8, .int x8)] [.int s0] sz K h := by
  unfold f10_isMet_J90 at E
  refine s_istore (i := 9) X (by decide +kernel) (by decide) rfl (ls_next (by decide) (Or.inr rfl) (ls_next (by decide) (Or.inr rfl) (ls_next (by decide) (Or.inr rfl) (ls_next (by decide) (Or.inr rfl) (ls_next (by decide) (Or.inr rfl) (ls_next (by decide) (Or.inr rfl) (ls_next (by decide) (Or.inr rfl) (ls_next (by decide) (Or.inr rfl) (ls_next (by decide) (Or.inr rfl) (ls_ins ls_end)))))))))) ?_
  refine g_aload_n (n := 0) X (by decide +kernel) 0 rfl ?_
  obtain ⟨o17, qo17, po17, E⟩ := ob_E E
  refine g_getR X (by decide +kernel) fl10_12 px0 qo17 ?_
  refine g_iload_n (n := 1) X (by decide +kernel) 1 rfl ?_
  refine g_iload_n (n := 3) X (by decide +kernel) 3 rfl ?_
  obtain ⟨y19, e18, E⟩ := bp_E E
  refine g_callV1 (st := []) X [.int x1, .int x3] (by decide +kernel) ml10_248 po17 rfl rfl (by decide) (Nat.le_of_ble_eq_true rfl) (c2_serving hK o17 x1 x3 h po17 e18) ?_
  refine s_istore (i := 10) X (by decide +kernel) (by decide) rfl (ls_next (by decide) (Or.inr rfl) (ls_next (by decide) (Or.inr rfl) (ls_next (by decide) (Or.inr rfl) (ls_next (by decide) (Or.inr rfl) (ls_next (by decide) (Or.inr rfl) (ls_next (by decide) (Or.inr rfl) (ls_next (by decide) (Or.inr rfl) (ls_next (by decide) (Or.inr rfl) (ls_next (by decide) (Or.inr rfl) (ls_next (by decide) (Or.inr rfl) (ls_ins ls_end))))))))))) ?_
  refine g_iload (n := 7) X (by decide +kernel) 7 rfl ?_
  rcases it_E E with ⟨c20, E⟩ | ⟨c20, E⟩
  · refine g_if_ne_f (off := 19) (tgt := 124) X (by decide +kernel) (by decide) (fun z => z c20) ?_
    refine g_aload_n (n := 0) X (by decide +kernel) 0 rfl ?_
    refine g_getS X (by decide +kernel) fl10_61 px0 ?_
    refine g_iload_n (n := 1) X (by decide +kernel) 1 rfl ?_
    obtain ⟨c21, E⟩ := gd_E E
    refine g_lald X (by decide +kernel) (ly hK px0 fl10_61 rfl) c21 ?_
    refine g_lconst (n := 1) (x := (1 : Int64)) X (by decide +kernel) (by decide) ?_
    refine g_iload (n := 5) X (by decide +kernel) 5 rfl ?_
    refine g_lshl X (by decide +kernel) ?_
    refine g_land X (by decide +kernel) ?_
    refine g_lconst (n := 0) (x := (0 : Int64)) X (by decide +kernel) (by decide) ?_
    refine g_lcmp X (by decide +kernel) ?_
    rcases it_E E with ⟨c22, E⟩ | ⟨c22, E⟩
    · refine g_if_eq_t (off := 33) (tgt := 154) X (by decide +kernel) (by decide) c22 ?_
      refine g_iload (n := 9) X (by decide +kernel) 9 rfl ?_
      rcases it_E E with ⟨c23, E⟩ | ⟨c23, E⟩
      · refine g_if_eq_t (off := 48) (tgt := 204) X (by decide +kernel) (by decide) c23 ?_
        refine g_iload (n := 10) X (by decide +kernel) 10 rfl ?_
        refine g_iconst (n := -1) (x := (-1 : Int32)) X (by decide +kernel) (by decide) ?_
        rcases it_E E with ⟨c24, E⟩ | ⟨c24, E⟩
        · refine g_icmp_eq_t (off := 35) (tgt := 242) X (by decide +kernel) (by decide) c24 ?_
          refine g_iload (n := 6) X (by decide +kernel) 6 rfl ?_
          refine g_iconst (n := -1) (x := (-1 : Int32)) X (by decide +kernel) (by decide) ?_
          rcases it_E E with ⟨c25, E⟩ | ⟨c25, E⟩
          · refine g_icmp_eq_t (off := 29) (tgt := 274) X (by decide +kernel) (by decide) c25 ?_
            refine g_iconst (n := 0) (x := (0 : Int32)) X (by decide +kernel) (by decide) ?_
            obtain ⟨rfl, rfl⟩ := rt_E E
            exact g_zreturn X (by decide +kernel) rfl
          · refine g_icmp_eq_f (off := 29) (tgt := 274) X (by decide +kernel) (by decide) c25 ?_
            refine g_aload_n (n := 0) X (by decide +kernel) 0 rfl ?_
            refine g_getS X (by decide +kernel) fl10_77 px0 ?_
            refine g_iconst (n := 2) (x := (2 : Int32)) X (by decide +kernel) (by decide) ?_
            refine g_dup2 X (by decide +kernel) rfl rfl ?_
            refine g_iald X (by decide +kernel) (ly hK px0 fl10_77 rfl) (by decide) ?_
            refine g_iconst (n := 1) (x := (1 : Int32)) X (by decide +kernel) (by decide) ?_
            refine g_iadd X (by decide +kernel) ?_
            obtain ⟨h26, eh26, E⟩ := lt_E E
            refine g_iast X (by decide +kernel) (ly hK px0 fl10_77 rfl) (by decide) eh26 ?_
            refine g_aload_n (n := 0) X (by decide +kernel) 0 rfl ?_
            refine g_getS X (by decide +kernel) fl10_33 px0 ?_
            refine g_iload (n := 6) X (by decide +kernel) 6 rfl ?_
            obtain ⟨c27, E⟩ := gd_E E
            obtain ⟨o28, qo28, po28, E⟩ := ob_E E
            refine g_aald (C := "AskedNames$Entry") X (by decide +kernel) (ly hK px0 fl10_33 rfl) rfl rfl c27 qo28 ?_
            refine g_iload_n (n := 2) X (by decide +kernel) 2 rfl ?_
            refine g_iload (n := 5) X (by decide +kernel) 5 rfl ?_
            obtain ⟨h30, e29, E⟩ := bp_E E
            refine g_callV0 (st := []) X [.int x2, .int x5] (by decide +kernel) ml10_271 po28 rfl rfl (by decide) (Nat.le_of_ble_eq_true rfl) (c6_join hK o28 x2 x5 h26 po28 e29) ?_
            refine g_goto (off := 5) (tgt := 276) X (by decide +kernel) (by decide) ?_
            refine g_iconst (n := 1) (x := (1 : Int32)) X (by decide +kernel) (by decide) ?_
            obtain ⟨rfl, rfl⟩ := rt_E E
            exact g_zreturn X (by decide +kernel) rfl
        · refine g_icmp_eq_f (off := 35) (tgt := 242) X (by decide +kernel) (by decide) c24 ?_
          refine g_aload_n (n := 0) X (by decide +kernel) 0 rfl ?_
          refine g_iload_n (n := 3) X (by decide +kernel) 3 rfl ?_
          refine g_aload_n (n := 0) X (by decide +kernel) 0 rfl ?_
          refine g_getI X (by decide +kernel) fl10_22 px0 ?_
          refine g_aload_n (n := 0) X (by decide +kernel) 0 rfl ?_
          obtain ⟨o31, qo31, po31, E⟩ := ob_E E
          refine g_getR X (by decide +kernel) fl10_12 px0 qo31 ?_
          refine g_getS X (by decide +kernel) fl10_265 po31 ?_
          refine g_iload (n := 10) X (by decide +kernel) 10 rfl ?_
          obtain ⟨c32, E⟩ := gd_E E
          refine g_iald X (by decide +kernel) (ly hK po31 fl10_265 rfl) c32 ?_
          refine g_iadd X (by decide +kernel) ?_
          refine g_iload_n (n := 1) X (by decide +kernel) 1 rfl ?_
          obtain ⟨h34, e33, E⟩ := bp_E E
          refine g_callV0 (st := []) X [.int x3, .int ((h.1 x0 2) + (h.1 (o31 + 12) y19.toNatClampNeg)), .int x1] (by decide +kernel) ml10_268 px0 rfl rfl (by decide) (Nat.le_of_ble_eq_true rfl) (c10_sayServed hK x0 x3 ((h.1 x0 2) + (h.1 (o31 + 12) y19.toNatClampNeg)) x1 h px0 e33) ?_
          refine g_aload_n (n := 0) X (by decide +kernel) 0 rfl ?_
          refine g_iload_n (n := 1) X (by decide +kernel) 1 rfl ?_
          refine g_iload_n (n := 2) X (by decide +kernel) 2 rfl ?_
          refine g_iload (n := 5) X (by decide +kernel) 5 rfl ?_
          obtain ⟨h36, e35, E⟩ := bp_E E
          refine g_callV0 (st := []) X [.int x1, .int x2, .int x5] (by decide +kernel) ml10_254 px0 rfl rfl (by decide) (Nat.le_of_ble_eq_true rfl) (c10_answer hK x0 x1 x2 x5 h34 px0 e35) ?_
          refine g_goto (off := 37) (tgt := 276) X (by decide +kernel) (by decide) ?_
          refine g_iconst (n := 1) (x := (1 : Int32)) X (by decide +kernel) (by decide) ?_
          obtain ⟨rfl, rfl⟩ := rt_E E
          exact g_zreturn X (by decide +kernel) rfl
      · refine g_if_eq_f (off := 48) (tgt := 204) X (by decide +kernel) (by decide) c23 ?_
        refine g_aload_n (n := 0) X (by decide +kernel) 0 rfl ?_
        refine g_getS X (by decide +kernel) fl10_77 px0 ?_
        refine g_iconst (n := 1) (x := (1 : Int32)) X (by decide +kernel) (by decide) ?_
        refine g_dup2 X (by decide +kernel) rfl rfl ?_
        refine g_iald X (by decide +kernel) (ly hK px0 fl10_77 rfl) (by decide) ?_
        refine g_iconst (n := 1) (x := (1 : Int32)) X (by decide +kernel) (by decide) ?_
        refine g_iadd X (by decide +kernel) ?_
        obtain ⟨h37, eh37, E⟩ := lt_E E
        refine g_iast X (by decide +kernel) (ly hK px0 fl10_77 rfl) (by decide) eh37 ?_
        refine g_aload_n (n := 0) X (by decide +kernel) 0 rfl ?_
        refine g_aload_n (n := 0) X (by decide +kernel) 0 rfl ?_
        refine g_getS X (by decide +kernel) fl10_67 px0 ?_
        refine g_iload_n (n := 1) X (by decide +kernel) 1 rfl ?_
        obtain ⟨c38, E⟩ := gd_E E
        obtain ⟨o39, qo39, po39, E⟩ := ob_E E
        refine g_aald (C := "AskedNames$Store") X (by decide +kernel) (ly hK px0 fl10_67 rfl) rfl rfl c38 qo39 ?_
        refine g_iload (n := 8) X (by decide +kernel) 8 rfl ?_
        refine g_iload_n (n := 1) X (by decide +kernel) 1 rfl ?_
        obtain ⟨h41, e40, E⟩ := bp_E E
        refine g_callV0 (st := []) X [.ref o39, .int x8, .int x1] (by decide +kernel) ml10_258 px0 rfl rfl (by decide) (Nat.le_of_ble_eq_true rfl) (c10_sayStored hK x0 o39 x8 x1 h37 px0 po39 e40) ?_
        refine g_aload_n (n := 0) X (by decide +kernel) 0 rfl ?_
        refine g_getS X (by decide +kernel) fl10_67 px0 ?_
        refine g_iload_n (n := 1) X (by decide +kernel) 1 rfl ?_
        obtain ⟨c42, E⟩ := gd_E E
        obtain ⟨o43, qo43, po43, E⟩ := ob_E E
        refine g_aald (C := "AskedNames$Store") X (by decide +kernel) (ly hK px0 fl10_67 rfl) rfl rfl c42 qo43 ?_
        refine g_iload (n := 8) X (by decide +kernel) 8 rfl ?_
        obtain ⟨h45, e44, E⟩ := bp_E E
        refine g_callV0 (st := []) X [.int x8] (by decide +kernel) ml10_262 po43 rfl rfl (by decide) (Nat.le_of_ble_eq_true rfl) (c8_use hK o43 x8 h41 po43 e44) ?_
        refine g_aload_n (n := 0) X (by decide +kernel) 0 rfl ?_
        refine g_iload_n (n := 1) X (by decide +kernel) 1 rfl ?_
        refine g_iload_n (n := 2) X (by decide +kernel) 2 rfl ?_
        refine g_iload (n := 5) X (by decide +kernel) 5 rfl ?_
        obtain ⟨h47, e46, E⟩ := bp_E E
        refine g_callV0 (st := []) X [.int x1, .int x2, .int x5] (by decide +kernel) ml10_254 px0 rfl rfl (by decide) (Nat.le_of_ble_eq_true rfl) (c10_answer hK x0 x1 x2 x5 h45 px0 e46) ?_
        refine g_goto (off := 75) (tgt := 276) X (by decide +kernel) (by decide) ?_
        refine g_iconst (n := 1) (x := (1 : Int32)) X (by decide +kernel) (by decide) ?_
        obtain ⟨rfl, rfl⟩ := rt_E E
        exact g_zreturn X (by decide +kernel) rfl
    · refine g_if_eq_f (off := 33) (tgt := 154) X (by decide +kernel) (by decide) c22 ?_
      refine g_sub [0, 1, 2, 3, 4, 5] rfl ?_
      exact w10_isMet_J124 X hK x0 x1 x2 x3 x4 x5 h px0 E
  · refine g_if_ne_t (off := 19) (tgt := 124) X (by decide +kernel) (by decide) c20 ?_
    refine g_sub [0, 1, 2, 3, 4, 5] rfl ?_
    exact w10_isMet_J124 X hK x0 x1 x2 x3 x4 x5 h px0 E
set_option maxHeartbeats 4000000 in
set_option maxRecDepth 20000 in
theorem w10_isMet_J85 {Γ : CT} {sp : Sp} {K : Ly} {sz n : Nat} {v : Int32} {hf : Hp}   (X : Ok Γ sp prog_2_method_14_code Rc10 11 (some (.boolean)) 4 (some (.int v)) sz K hf) (hK : LyOk K) (x0 : Nat) (x1 : Int32) (x2 : Int32) (x3 : Int32) (x4 : Int32) (x5 : Int32) (x6 : Int32) (x7 : Int32) (x8 : Int32) (h : Hp)  (px0 : K x0 = some (.inl 10)) (E : f10_isMet_J85 K n x0 x1 x2 x3 x4 x5 x6 x7 x8 h = some (v, hf)) : Go Γ (0, 0) 85 [(0, .ref x0), (1, .int x1), (2, .int x2), (3, .int x3), (4, .int x4), (5, .int x5), (6, .int x6), (7, .int x7), (8, .int x8)] [] sz K h := by
  unfold f10_isMet_J85 at E
  refine g_iconst (n := 1) (x := (1 : Int32)) X (by decide +kernel) (by decide) ?_
  refine g_goto (off := 4) (tgt := 90) X (by decide +kernel) (by decide) ?_
  exact w10_isMet_J90 X hK x0 x1 x2 x3 x4 x5 x6 x7 x8 (1 : Int32) h px0 E
set_option maxHeartbeats 4000000 in
set_option maxRecDepth 20000 in
theorem w10_isMet_J89 {Γ : CT} {sp : Sp} {K : Ly} {sz n : Nat} {v : Int32} {hf : Hp}   (X : Ok Γ sp prog_2_method_14_code Rc10 11 (some (.boolean)) 4 (some (.int v)) sz K hf) (hK : LyOk K) (x0 : Nat) (x1 : Int32) (x2 : Int32) (x3 : Int32) (x4 : Int32) (x5 : Int32) (x6 : Int32) (x7 : Int32) (x8 : Int32) (h : Hp)  (px0 : K x0 = some (.inl 10)) (E : f10_isMet_J89 K n x0 x1 x2 x3 x4 x5 x6 x7 x8 h = some (v, hf)) : Go Γ (0, 0) 89 [(0, .ref x0), (1, .int x1), (2, .int x2), (3, .int x3), (4, .int x4), (5, .int x5), (6, .int x6), (7, .int x7), (8, .int x8)] [] sz K h := by
  unfold f10_isMet_J89 at E
  refine g_iconst (n := 0) (x := (0 : Int32)) X (by decide +kernel) (by decide) ?_
  exact w10_isMet_J90 X hK x0 x1 x2 x3 x4 x5 x6 x7 x8 (0 : Int32) h px0 E
set_option maxHeartbeats 4000000 in
set_option maxRecDepth 20000 in
theorem w10_isMet_J41 {Γ : CT} {sp : Sp} {K : Ly} {sz n : Nat} {v : Int32} {hf : Hp}   (X : Ok Γ sp prog_2_method_14_code Rc10 11 (some (.boolean)) 4 (some (.int v)) sz K hf) (hK : LyOk K) (x0 : Nat) (x1 : Int32) (x2 : Int32) (x3 : Int32) (x4 : Int32) (x5 : Int32) (x6 : Int32) (s0 : Int32) (h : Hp)  (px0 : K x0 = some (.inl 10)) (E : f10_isMet_J41 K n x0 x1 x2 x3 x4 x5 x6 s0 h = some (v, hf)) : Go Γ (0, 0) 41 [(0, .ref x0), (1, .int x1), (2, .int x2), (3, .int x3), (4, .int x4), (5, .int x5), (6, .int x6)] [.int s0] sz K h := by
  unfold f10_isMet_J41 at E
  refine s_istore (i := 7) X (by decide +kernel) (by decide) rfl (ls_next (by decide) (Or.inr rfl) (ls_next (by decide) (Or.inr rfl) (ls_next (by decide) (Or.inr rfl) (ls_next (by decide) (Or.inr rfl) (ls_next (by decide) (Or.inr rfl) (ls_next (by decide) (Or.inr rfl) (ls_next (by decide) (Or.inr rfl) (ls_ins ls_end)))))))) ?_
  refine g_aload_n (n := 0) X (by decide +kernel) 0 rfl ?_
  refine g_getS X (by decide +kernel) fl10_67 px0 ?_
  refine g_iload_n (n := 1) X (by decide +kernel) 1 rfl ?_
  obtain ⟨c7, E⟩ := gd_E E
  obtain ⟨o8, qo8, po8, E⟩ := ob_E E
  refine g_aald (C := "AskedNames$Store") X (by decide +kernel) (ly hK px0 fl10_67 rfl) rfl rfl c7 qo8 ?_
  refine g_iload_n (n := 3) X (by decide +kernel) 3 rfl ?_
  obtain ⟨y10, e9, E⟩ := bp_E E
  refine g_callV1 (st := []) X [.int x3] (by decide +kernel) ml10_243 po8 rfl rfl (by decide) (Nat.le_of_ble_eq_true rfl) (c8_find hK o8 x3 h po8 e9) ?_
  refine s_istore (i := 8) X (by decide +kernel) (by decide) rfl (ls_next (by decide) (Or.inr rfl) (ls_next (by decide) (Or.inr rfl) (ls_next (by decide) (Or.inr rfl) (ls_next (by decide) (Or.inr rfl) (ls_next (by decide) (Or.inr rfl) (ls_next (by decide) (Or.inr rfl) (ls_next (by decide) (Or.inr rfl) (ls_next (by decide) (Or.inr rfl) (ls_ins ls_end))))))))) ?_
  refine g_iload (n := 8) X (by decide +kernel) 8 rfl ?_
  refine g_iconst (n := -1) (x := (-1 : Int32)) X (by decide +kernel) (by decide) ?_
  rcases it_E E with ⟨c11, E⟩ | ⟨c11, E⟩
  · refine g_icmp_eq_t (off := 31) (tgt := 89) X (by decide +kernel) (by decide) c11 ?_
    exact w10_isMet_J89 X hK x0 x1 x2 x3 x4 x5 x6 s0 y10 h px0 E
  · refine g_icmp_eq_f (off := 31) (tgt := 89) X (by decide +kernel) (by decide) c11 ?_
    refine g_iload (n := 4) X (by decide +kernel) 4 rfl ?_
    rcases it_E E with ⟨c12, E⟩ | ⟨c12, E⟩
    · refine g_if_eq_t (off := 22) (tgt := 85) X (by decide +kernel) (by decide) c12 ?_
      exact w10_isMet_J85 X hK x0 x1 x2 x3 x4 x5 x6 s0 y10 h px0 E
    · refine g_if_eq_f (off := 22) (tgt := 85) X (by decide +kernel) (by decide) c12 ?_
      refine g_aload_n (n := 0) X (by decide +kernel) 0 rfl ?_
      refine g_getS X (by decide +kernel) fl10_67 px0 ?_
      refine g_iload_n (n := 1) X (by decide +kernel) 1 rfl ?_
      obtain ⟨c13, E⟩ := gd_E E
      obtain ⟨o14, qo14, po14, E⟩ := ob_E E
      refine g_aald (C := "AskedNames$Store") X (by decide +kernel) (ly hK px0 fl10_67 rfl) rfl rfl c13 qo14 ?_
      refine g_getS X (by decide +kernel) fl10_245 po14 ?_
      refine g_iload (n := 8) X (by decide +kernel) 8 rfl ?_
      obtain ⟨c15, E⟩ := gd_E E
      refine g_iald X (by decide +kernel) (ly hK po14 fl10_245 rfl) c15 ?_
      refine g_aload_n (n := 0) X (by decide +kernel) 0 rfl ?_
      refine g_getI X (by decide +kernel) fl10_22 px0 ?_
      have hJ : Go Γ (0, 0) 90 [(0, .ref x0), (1, .int x1), (2, .int x2), (3, .int x3), (4, .int x4), (5, .int x5), (6, .int x6), (7, .int s0), (8, .int y10)] [.int (if (h.1 (o14 + 2) y10.toNatClampNeg) < (h.1 x0 2) then (0 : Int32) else (1 : Int32))] sz K h := by
        exact w10_isMet_J90 X hK x0 x1 x2 x3 x4 x5 x6 s0 y10 (if (h.1 (o14 + 2) y10.toNatClampNeg) < (h.1 x0 2) then (0 : Int32) else (1 : Int32)) h px0 E
      clear E
      by_cases c16 : (h.1 (o14 + 2) y10.toNatClampNeg) < (h.1 x0 2)
      · rw [if_pos c16] at hJ
        refine g_icmp_lt_t (off := 7) (tgt := 89) X (by decide +kernel) (by decide) c16 ?_
        refine g_iconst (n := 0) (x := (0 : Int32)) X (by decide +kernel) (by decide) ?_
        exact hJ
      · rw [if_neg c16] at hJ
        refine g_icmp_lt_f (off := 7) (tgt := 89) X (by decide +kernel) (by decide) c16 ?_
        refine g_iconst (n := 1) (x := (1 : Int32)) X (by decide +kernel) (by decide) ?_
        refine g_goto (off := 4) (tgt := 90) X (by decide +kernel) (by decide) ?_
        exact hJ
set_option maxHeartbeats 4000000 in
set_option maxRecDepth 20000 in
theorem w10_isMet_J40 {Γ : CT} {sp : Sp} {K : Ly} {sz n : Nat} {v : Int32} {hf : Hp}   (X : Ok Γ sp prog_2_method_14_code Rc10 11 (some (.boolean)) 4 (some (.int v)) sz K hf) (hK : LyOk K) (x0 : Nat) (x1 : Int32) (x2 : Int32) (x3 : Int32) (x4 : Int32) (x5 : Int32) (x6 : Int32) (h : Hp)  (px0 : K x0 = some (.inl 10)) (E : f10_isMet_J40 K n x0 x1 x2 x3 x4 x5 x6 h = some (v, hf)) : Go Γ (0, 0) 40 [(0, .ref x0), (1, .int x1), (2, .int x2), (3, .int x3), (4, .int x4), (5, .int x5), (6, .int x6)] [] sz K h := by
  unfold f10_isMet_J40 at E
  refine g_iconst (n := 0) (x := (0 : Int32)) X (by decide +kernel) (by decide) ?_
  exact w10_isMet_J41 X hK x0 x1 x2 x3 x4 x5 x6 (0 : Int32) h px0 E
set_option maxHeartbeats 4000000 in
set_option maxRecDepth 20000 in
theorem c10_isMet {sp : Sp} {K : Ly} {sz n : Nat} (hK : LyOk K) (o : Nat) (a1 : Int32) (a2 : Int32) (a3 : Int32) (a4 : Int32) (a5 : Int32) (h : Hp) (ho : K o = some (.inl 10)) {v : Int32} {hf : Hp} (E : f10_isMet K n o a1 a2 a3 a4 a5 h = some (v, hf)) : Con sp y10_isMet prog_2_method_14_code 11 (some (.boolean)) 4 0 0 [.ref o, .int a1, .int a2, .int a3, .int a4, .int a5] sz K h (some (.int v)) sz K hf := by
  refine Con.of (by decide) (Nat.le_of_ble_eq_true rfl) (fun Γ X _ => ?_)
  show Go Γ (0, 0) 0 [(0, .ref o), (1, .int a1), (2, .int a2), (3, .int a3), (4, .int a4), (5, .int a5)] [] sz K h
  unfold f10_isMet at E
  refine g_aload_n (n := 0) X (by decide +kernel) 0 rfl ?_
  refine g_iload_n (n := 1) X (by decide +kernel) 1 rfl ?_
  refine g_iload_n (n := 3) X (by decide +kernel) 3 rfl ?_
  refine g_iload (n := 4) X (by decide +kernel) 4 rfl ?_
  obtain ⟨y2, e1, E⟩ := bp_E E
  refine g_callV1 (st := []) X [.int a1, .int a3, .int a4] (by decide +kernel) ml10_239 ho rfl rfl (by decide) (Nat.le_of_ble_eq_true rfl) (c10_find hK o a1 a3 a4 h ho e1) ?_
  refine s_istore (i := 6) X (by decide +kernel) (by decide) rfl (ls_next (by decide) (Or.inr rfl) (ls_next (by decide) (Or.inr rfl) (ls_next (by decide) (Or.inr rfl) (ls_next (by decide) (Or.inr rfl) (ls_next (by decide) (Or.inr rfl) (ls_next (by decide) (Or.inr rfl) (ls_ins ls_end))))))) ?_
  refine g_iload (n := 6) X (by decide +kernel) 6 rfl ?_
  refine g_iconst (n := -1) (x := (-1 : Int32)) X (by decide +kernel) (by decide) ?_
  rcases it_E E with ⟨c3, E⟩ | ⟨c3, E⟩
  · refine g_icmp_eq_t (off := 27) (tgt := 40) X (by decide +kernel) (by decide) c3 ?_
    exact w10_isMet_J40 X hK o a1 a2 a3 a4 a5 y2 h ho E
  · refine g_icmp_eq_f (off := 27) (tgt := 40) X (by decide +kernel) (by decide) c3 ?_
    refine g_aload_n (n := 0) X (by decide +kernel) 0 rfl ?_
    refine g_getS X (by decide +kernel) fl10_33 ho ?_
    refine g_iload (n := 6) X (by decide +kernel) 6 rfl ?_
    obtain ⟨c4, E⟩ := gd_E E
    obtain ⟨o5, qo5, po5, E⟩ := ob_E E
    refine g_aald (C := "AskedNames$Entry") X (by decide +kernel) (ly hK ho fl10_33 rfl) rfl rfl c4 qo5 ?_
    refine g_getL X (by decide +kernel) fl10_229 po5 ?_
    refine g_lconst (n := 1) (x := (1 : Int64)) X (by decide +kernel) (by decide) ?_
    refine g_iload (n := 5) X (by decide +kernel) 5 rfl ?_
    refine g_lshl X (by decide +kernel) ?_
    refine g_land X (by decide +kernel) ?_
    refine g_lconst (n := 0) (x := (0 : Int64)) X (by decide +kernel) (by decide) ?_
    refine g_lcmp X (by decide +kernel) ?_
    have hJ : Go Γ (0, 0) 41 [(0, .ref o), (1, .int a1), (2, .int a2), (3, .int a3), (4, .int a4), (5, .int a5), (6, .int y2)] [.int (if (lg_cmp ((h.2.1 o5 5) &&& ((1 : Int64) <<< (a5.toInt64 &&& 63))) (0 : Int64)) = 0 then (0 : Int32) else (1 : Int32))] sz K h := by
      exact w10_isMet_J41 X hK o a1 a2 a3 a4 a5 y2 (if (lg_cmp ((h.2.1 o5 5) &&& ((1 : Int64) <<< (a5.toInt64 &&& 63))) (0 : Int64)) = 0 then (0 : Int32) else (1 : Int32)) h ho E
    clear E
    by_cases c6 : (lg_cmp ((h.2.1 o5 5) &&& ((1 : Int64) <<< (a5.toInt64 &&& 63))) (0 : Int64)) = 0
    · rw [if_pos c6] at hJ
      refine g_if_eq_t (off := 7) (tgt := 40) X (by decide +kernel) (by decide) c6 ?_
      refine g_iconst (n := 0) (x := (0 : Int32)) X (by decide +kernel) (by decide) ?_
      exact hJ
    · rw [if_neg c6] at hJ
      refine g_if_eq_f (off := 7) (tgt := 40) X (by decide +kernel) (by decide) c6 ?_
      refine g_iconst (n := 1) (x := (1 : Int32)) X (by decide +kernel) (by decide) ?_
      refine g_goto (off := 4) (tgt := 41) X (by decide +kernel) (by decide) ?_
      exact hJ
-- Course.bestWay
def f10_bestWay_J154 (K : Ly) (n : Nat) (r20 : Int32 → Int32 → Int32 → Option (Int32)) (x0 : Nat) (x1 : Int32) (x3 : Int32) (x4 : Int32) (x5 : Int32) (x6 : Int32) (x7 : Int32) (x8 : Int32) (s0 : Int32) (h : Hp) : Option (Int32) :=
    lt (x7 + (1 : Int32)) fun x7_32 =>
    r20 (if x5 = (-1 : Int32) then x8 else (if s0 < x6 then x8 else (if s0 = x6 then (if x5 ≤ x8 then x5 else x8) else x5))) (if x5 = (-1 : Int32) then s0 else (if s0 < x6 then s0 else (if s0 = x6 then (if x5 ≤ x8 then x6 else s0) else x6))) x7_32
def f10_bestWay_J78 (K : Ly) (n : Nat) (r20 : Int32 → Int32 → Int32 → Option (Int32)) (x0 : Nat) (x1 : Int32) (x3 : Int32) (x4 : Int32) (x5 : Int32) (x6 : Int32) (x7 : Int32) (x8 : Int32) (s0 : Int32) (h : Hp) : Option (Int32) :=
    if s0 = 0 then (
    lt (x7 + (1 : Int32)) fun x7_16 =>
    r20 x5 x6 x7_16)
    else (
    if (x3 &&& ((1 : Int32) <<< (x8 &&& 31))) = 0 then (
    ob (h.2.2 x0 0) K 2 fun o18 =>
    gd (inb ((x1 * (6 : Int32)) + x8) 36) <|
    if (f10_isUp x0 (h.1 (o18 + 5) ((x1 * (6 : Int32)) + x8).toNatClampNeg) h) = 0 then (
    lt (x7 + (1 : Int32)) fun x7_21 =>
    r20 x5 x6 x7_21)
    else (
    gd (inb ((x1 * (6 : Int32)) + x8) 36) <|
    lt (h.1 (x0 + 18) ((x1 * (6 : Int32)) + x8).toNatClampNeg) fun x10_23 =>
    if x10_23 = (-1 : Int32) then (
    ob (h.2.2 x0 0) K 2 fun o25 =>
    gd (inb x7 12) <|
    f10_bestWay_J154 K n (r20) x0 x1 x3 x4 x5 x6 x7 x8 (h.1 (o25 + 9) x7.toNatClampNeg) h)
    else (
    f10_bestWay_J154 K n (r20) x0 x1 x3 x4 x5 x6 x7 x8 x10_23 h)))
    else (
    lt (x7 + (1 : Int32)) fun x7_27 =>
    r20 x5 x6 x7_27))
def f10_bestWay_J77 (K : Ly) (n : Nat) (r20 : Int32 → Int32 → Int32 → Option (Int32)) (x0 : Nat) (x1 : Int32) (x3 : Int32) (x4 : Int32) (x5 : Int32) (x6 : Int32) (x7 : Int32) (x8 : Int32) (h : Hp) : Option (Int32) :=
    f10_bestWay_J78 K n (r20) x0 x1 x3 x4 x5 x6 x7 x8 (0 : Int32) h
def f10_bestWay_L20 (K : Ly) (n : Nat) (x0 : Nat) (x1 : Int32) (x3 : Int32) (x4 : Int32) (h : Hp)  : Nat → Int32 → Int32 → Int32 → Option (Int32)
  | 0, _, _, _ => none
  | k + 1, x5, x6, x7 =>
    ob (h.2.2 x0 0) K 2 fun o4 =>
    if (h.1 o4 3) ≤ x7 then (
    some x5)
    else (
    ob (h.2.2 x0 0) K 2 fun o6 =>
    gd (inb x7 12) <|
    lt (h.1 (o6 + 8) x7.toNatClampNeg) fun x8_8 =>
    ob (h.2.2 x0 0) K 2 fun o9 =>
    gd (inb x7 12) <|
    if (h.1 (o9 + 6) x7.toNatClampNeg) = x1 then (
    ob (h.2.2 x0 0) K 2 fun o12 =>
    gd (inb x7 12) <|
    f10_bestWay_J78 K n (f10_bestWay_L20 K n x0 x1 x3 x4 h  k) x0 x1 x3 x4 x5 x6 x7 x8_8 (if (h.1 (o12 + 7) x7.toNatClampNeg) = x4 then (1 : Int32) else (0 : Int32)) h)
    else (
    f10_bestWay_J77 K n (f10_bestWay_L20 K n x0 x1 x3 x4 h  k) x0 x1 x3 x4 x5 x6 x7 x8_8 h))
def f10_bestWay (K : Ly) (n : Nat) (o : Nat) (a1 : Int32) (a2 : Int32) (a3 : Int32) (h : Hp) : Option (Int32) :=
    ob (h.2.2 o 0) K 2 fun o1 =>
    bp (f2_routed K n o1 a1 a2 h) fun y3 =>
    f10_bestWay_L20 K n o a1 a3 y3 h n (-1 : Int32) (0 : Int32) (0 : Int32)
set_option maxHeartbeats 4000000 in
set_option maxRecDepth 20000 in
theorem w10_bestWay_J154 {Γ : CT} {sp : Sp} {K : Ly} {sz n : Nat} {v : Int32} {h : Hp}  {r20 : Int32 → Int32 → Int32 → Option (Int32)}  (X : Ok Γ sp prog_2_method_17_code Rc10 12 (some (.int)) 2 (some (.int v)) sz K h) (hK : LyOk K) (x0 : Nat) (x1 : Int32) (x3 : Int32) (x4 : Int32) (x5 : Int32) (x6 : Int32) (x7 : Int32) (x8 : Int32) (s0 : Int32)  (hr20 : ∀ (x5 : Int32) (x6 : Int32) (x7 : Int32), r20 x5 x6 x7 = some v → Go Γ (0, 0) 20 [(0, .ref x0), (1, .int x1), (3, .int x3), (4, .int x4), (5, .int x5), (6, .int x6), (7, .int x7)] [] sz K h) (px0 : K x0 = some (.inl 10)) (E : f10_bestWay_J154 K n r20 x0 x1 x3 x4 x5 x6 x7 x8 s0 h = some v) : Go Γ (0, 0) 154 [(0, .ref x0), (1, .int x1), (3, .int x3), (4, .int x4), (5, .int x5), (6, .int x6), (7, .int x7), (8, .int x8)] [.int s0] sz K h := by
  unfold f10_bestWay_J154 at E
  refine s_istore (i := 11) X (by decide +kernel) (by decide) rfl (ls_next (by decide) (Or.inr rfl) (ls_next (by decide) (Or.inr rfl) (ls_next (by decide) (Or.inr rfl) (ls_next (by decide) (Or.inr rfl) (ls_next (by decide) (Or.inr rfl) (ls_next (by decide) (Or.inr rfl) (ls_next (by decide) (Or.inr rfl) (ls_next (by decide) (Or.inr rfl) (ls_ins ls_end))))))))) ?_
  refine g_iload (n := 5) X (by decide +kernel) 4 rfl ?_
  refine g_iconst (n := -1) (x := (-1 : Int32)) X (by decide +kernel) (by decide) ?_
  have hJ : Go Γ (0, 0) 191 [(0, .ref x0), (1, .int x1), (3, .int x3), (4, .int x4), (5, .int (if x5 = (-1 : Int32) then x8 else (if s0 < x6 then x8 else (if s0 = x6 then (if x5 ≤ x8 then x5 else x8) else x5)))), (6, .int (if x5 = (-1 : Int32) then s0 else (if s0 < x6 then s0 else (if s0 = x6 then (if x5 ≤ x8 then x6 else s0) else x6)))), (7, .int x7)] [] sz K h := by
    obtain ⟨x7_32, ex7_32, E⟩ := lt_E E
    refine s_iinc (i := 7) (n := 1) (y := x7_32) X (by decide +kernel) 6 rfl (by decide) ex7_32 (ls_next (by decide) (Or.inr rfl) (ls_next (by decide) (Or.inr rfl) (ls_next (by decide) (Or.inr rfl) (ls_next (by decide) (Or.inr rfl) (ls_next (by decide) (Or.inr rfl) (ls_next (by decide) (Or.inr rfl) (ls_here ls_end))))))) ?_
    refine g_goto (off := -174) (tgt := 20) X (by decide +kernel) (by decide) ?_
    exact hr20 (if x5 = (-1 : Int32) then x8 else (if s0 < x6 then x8 else (if s0 = x6 then (if x5 ≤ x8 then x5 else x8) else x5))) (if x5 = (-1 : Int32) then s0 else (if s0 < x6 then s0 else (if s0 = x6 then (if x5 ≤ x8 then x6 else s0) else x6))) x7_32  E
  clear E
  by_cases c28 : x5 = (-1 : Int32)
  · rw [if_pos c28, if_pos c28] at hJ
    refine g_icmp_eq_t (off := 24) (tgt := 183) X (by decide +kernel) (by decide) c28 ?_
    refine g_iload (n := 8) X (by decide +kernel) 7 rfl ?_
    refine s_istore (i := 5) X (by decide +kernel) (by decide) rfl (ls_next (by decide) (Or.inr rfl) (ls_next (by decide) (Or.inr rfl) (ls_next (by decide) (Or.inr rfl) (ls_next (by decide) (Or.inr rfl) (ls_here (ls_next (by decide) (Or.inr rfl) (ls_next (by decide) (Or.inr rfl) (ls_next (by decide) (Or.inr rfl) (ls_next (by decide) (Or.inr rfl) ls_end))))))))) ?_
    refine g_iload (n := 11) X (by decide +kernel) 8 rfl ?_
    refine s_istore (i := 6) X (by decide +kernel) (by decide) rfl (ls_next (by decide) (Or.inr rfl) (ls_next (by decide) (Or.inr rfl) (ls_next (by decide) (Or.inr rfl) (ls_next (by decide) (Or.inr rfl) (ls_next (by decide) (Or.inr rfl) (ls_here (ls_next (by decide) (Or.inr rfl) (ls_next (by decide) (Or.inr rfl) (ls_next (by decide) (Or.inr rfl) ls_end))))))))) ?_
    refine g_sub [0, 1, 2, 3, 4, 5, 6] rfl ?_
    exact hJ
  · rw [if_neg c28, if_neg c28] at hJ
    refine g_icmp_eq_f (off := 24) (tgt := 183) X (by decide +kernel) (by decide) c28 ?_
    refine g_iload (n := 11) X (by decide +kernel) 8 rfl ?_
    refine g_iload (n := 6) X (by decide +kernel) 5 rfl ?_
    by_cases c29 : s0 < x6
    · rw [if_pos c29, if_pos c29] at hJ
      refine g_icmp_lt_t (off := 17) (tgt := 183) X (by decide +kernel) (by decide) c29 ?_
      refine g_iload (n := 8) X (by decide +kernel) 7 rfl ?_
      refine s_istore (i := 5) X (by decide +kernel) (by decide) rfl (ls_next (by decide) (Or.inr rfl) (ls_next (by decide) (Or.inr rfl) (ls_next (by decide) (Or.inr rfl) (ls_next (by decide) (Or.inr rfl) (ls_here (ls_next (by decide) (Or.inr rfl) (ls_next (by decide) (Or.inr rfl) (ls_next (by decide) (Or.inr rfl) (ls_next (by decide) (Or.inr rfl) ls_end))))))))) ?_
      refine g_iload (n := 11) X (by decide +kernel) 8 rfl ?_
      refine s_istore (i := 6) X (by decide +kernel) (by decide) rfl (ls_next (by decide) (Or.inr rfl) (ls_next (by decide) (Or.inr rfl) (ls_next (by decide) (Or.inr rfl) (ls_next (by decide) (Or.inr rfl) (ls_next (by decide) (Or.inr rfl) (ls_here (ls_next (by decide) (Or.inr rfl) (ls_next (by decide) (Or.inr rfl) (ls_next (by decide) (Or.inr rfl) ls_end))))))))) ?_
      refine g_sub [0, 1, 2, 3, 4, 5, 6] rfl ?_
      exact hJ
    · rw [if_neg c29, if_neg c29] at hJ
      refine g_icmp_lt_f (off := 17) (tgt := 183) X (by decide +kernel) (by decide) c29 ?_
      refine g_iload (n := 11) X (by decide +kernel) 8 rfl ?_
      refine g_iload (n := 6) X (by decide +kernel) 5 rfl ?_
      by_cases c30 : s0 = x6
      · rw [if_pos c30, if_pos c30] at hJ
        refine g_icmp_ne_f (off := 18) (tgt := 191) X (by decide +kernel) (by decide) (fun z => z c30) ?_
        refine g_iload (n := 8) X (by decide +kernel) 7 rfl ?_
        refine g_iload (n := 5) X (by decide +kernel) 4 rfl ?_
        by_cases c31 : x5 ≤ x8
        · rw [if_pos c31, if_pos c31] at hJ
          refine g_icmp_ge_t (off := 11) (tgt := 191) X (by decide +kernel) (by decide) c31 ?_
          refine g_sub [0, 1, 2, 3, 4, 5, 6] rfl ?_
          exact hJ
        · rw [if_neg c31, if_neg c31] at hJ
          refine g_icmp_ge_f (off := 11) (tgt := 191) X (by decide +kernel) (by decide) c31 ?_
          refine g_iload (n := 8) X (by decide +kernel) 7 rfl ?_
          refine s_istore (i := 5) X (by decide +kernel) (by decide) rfl (ls_next (by decide) (Or.inr rfl) (ls_next (by decide) (Or.inr rfl) (ls_next (by decide) (Or.inr rfl) (ls_next (by decide) (Or.inr rfl) (ls_here (ls_next (by decide) (Or.inr rfl) (ls_next (by decide) (Or.inr rfl) (ls_next (by decide) (Or.inr rfl) (ls_next (by decide) (Or.inr rfl) ls_end))))))))) ?_
          refine g_iload (n := 11) X (by decide +kernel) 8 rfl ?_
          refine s_istore (i := 6) X (by decide +kernel) (by decide) rfl (ls_next (by decide) (Or.inr rfl) (ls_next (by decide) (Or.inr rfl) (ls_next (by decide) (Or.inr rfl) (ls_next (by decide) (Or.inr rfl) (ls_next (by decide) (Or.inr rfl) (ls_here (ls_next (by decide) (Or.inr rfl) (ls_next (by decide) (Or.inr rfl) (ls_next (by decide) (Or.inr rfl) ls_end))))))))) ?_
          refine g_sub [0, 1, 2, 3, 4, 5, 6] rfl ?_
          exact hJ
      · rw [if_neg c30, if_neg c30] at hJ
        refine g_icmp_ne_t (off := 18) (tgt := 191) X (by decide +kernel) (by decide) c30 ?_
        refine g_sub [0, 1, 2, 3, 4, 5, 6] rfl ?_
        exact hJ
set_option maxHeartbeats 4000000 in
set_option maxRecDepth 20000 in
theorem w10_bestWay_J78 {Γ : CT} {sp : Sp} {K : Ly} {sz n : Nat} {v : Int32} {h : Hp}  {r20 : Int32 → Int32 → Int32 → Option (Int32)}  (X : Ok Γ sp prog_2_method_17_code Rc10 12 (some (.int)) 2 (some (.int v)) sz K h) (hK : LyOk K) (x0 : Nat) (x1 : Int32) (x3 : Int32) (x4 : Int32) (x5 : Int32) (x6 : Int32) (x7 : Int32) (x8 : Int32) (s0 : Int32)  (hr20 : ∀ (x5 : Int32) (x6 : Int32) (x7 : Int32), r20 x5 x6 x7 = some v → Go Γ (0, 0) 20 [(0, .ref x0), (1, .int x1), (3, .int x3), (4, .int x4), (5, .int x5), (6, .int x6), (7, .int x7)] [] sz K h) (px0 : K x0 = some (.inl 10)) (E : f10_bestWay_J78 K n r20 x0 x1 x3 x4 x5 x6 x7 x8 s0 h = some v) : Go Γ (0, 0) 78 [(0, .ref x0), (1, .int x1), (3, .int x3), (4, .int x4), (5, .int x5), (6, .int x6), (7, .int x7), (8, .int x8)] [.int s0] sz K h := by
  unfold f10_bestWay_J78 at E
  refine s_istore (i := 9) X (by decide +kernel) (by decide) rfl (ls_next (by decide) (Or.inr rfl) (ls_next (by decide) (Or.inr rfl) (ls_next (by decide) (Or.inr rfl) (ls_next (by decide) (Or.inr rfl) (ls_next (by decide) (Or.inr rfl) (ls_next (by decide) (Or.inr rfl) (ls_next (by decide) (Or.inr rfl) (ls_next (by decide) (Or.inr rfl) (ls_ins ls_end))))))))) ?_
  refine g_iload (n := 9) X (by decide +kernel) 8 rfl ?_
  rcases it_E E with ⟨c15, E⟩ | ⟨c15, E⟩
  · refine g_if_eq_t (off := 109) (tgt := 191) X (by decide +kernel) (by decide) c15 ?_
    obtain ⟨x7_16, ex7_16, E⟩ := lt_E E
    refine s_iinc (i := 7) (n := 1) (y := x7_16) X (by decide +kernel) 6 rfl (by decide) ex7_16 (ls_next (by decide) (Or.inr rfl) (ls_next (by decide) (Or.inr rfl) (ls_next (by decide) (Or.inr rfl) (ls_next (by decide) (Or.inr rfl) (ls_next (by decide) (Or.inr rfl) (ls_next (by decide) (Or.inr rfl) (ls_here (ls_next (by decide) (Or.inr rfl) (ls_next (by decide) (Or.inr rfl) ls_end))))))))) ?_
    refine g_goto (off := -174) (tgt := 20) X (by decide +kernel) (by decide) ?_
    refine g_sub [0, 1, 2, 3, 4, 5, 6] rfl ?_
    exact hr20 x5 x6 x7_16  E
  · refine g_if_eq_f (off := 109) (tgt := 191) X (by decide +kernel) (by decide) c15 ?_
    refine g_iload_n (n := 3) X (by decide +kernel) 2 rfl ?_
    refine g_iconst (n := 1) (x := (1 : Int32)) X (by decide +kernel) (by decide) ?_
    refine g_iload (n := 8) X (by decide +kernel) 7 rfl ?_
    refine g_ishl X (by decide +kernel) ?_
    refine g_iand X (by decide +kernel) ?_
    rcases it_E E with ⟨c17, E⟩ | ⟨c17, E⟩
    · refine g_if_ne_f (off := 100) (tgt := 191) X (by decide +kernel) (by decide) (fun z => z c17) ?_
      refine g_aload_n (n := 0) X (by decide +kernel) 0 rfl ?_
      refine g_aload_n (n := 0) X (by decide +kernel) 0 rfl ?_
      obtain ⟨o18, qo18, po18, E⟩ := ob_E E
      refine g_getR X (by decide +kernel) fl10_12 px0 qo18 ?_
      refine g_getS X (by decide +kernel) fl10_313 po18 ?_
      refine g_iload_n (n := 1) X (by decide +kernel) 1 rfl ?_
      refine g_bipush (n := 6) (x := (6 : Int32)) X (by decide +kernel) (by decide) ?_
      refine g_imul X (by decide +kernel) ?_
      refine g_iload (n := 8) X (by decide +kernel) 7 rfl ?_
      refine g_iadd X (by decide +kernel) ?_
      obtain ⟨c19, E⟩ := gd_E E
      refine g_iald X (by decide +kernel) (ly hK po18 fl10_313 rfl) c19 ?_
      refine g_callV1 (st := []) X [.int (h.1 (o18 + 5) ((x1 * (6 : Int32)) + x8).toNatClampNeg)] (by decide +kernel) ml10_316 px0 rfl rfl (by decide) (Nat.le_of_ble_eq_true rfl) (c10_isUp hK x0 (h.1 (o18 + 5) ((x1 * (6 : Int32)) + x8).toNatClampNeg) h px0) ?_
      rcases it_E E with ⟨c20, E⟩ | ⟨c20, E⟩
      · refine g_if_ne_f (off := 6) (tgt := 119) X (by decide +kernel) (by decide) (fun z => z c20) ?_
        refine g_goto (off := 75) (tgt := 191) X (by decide +kernel) (by decide) ?_
        obtain ⟨x7_21, ex7_21, E⟩ := lt_E E
        refine s_iinc (i := 7) (n := 1) (y := x7_21) X (by decide +kernel) 6 rfl (by decide) ex7_21 (ls_next (by decide) (Or.inr rfl) (ls_next (by decide) (Or.inr rfl) (ls_next (by decide) (Or.inr rfl) (ls_next (by decide) (Or.inr rfl) (ls_next (by decide) (Or.inr rfl) (ls_next (by decide) (Or.inr rfl) (ls_here (ls_next (by decide) (Or.inr rfl) (ls_next (by decide) (Or.inr rfl) ls_end))))))))) ?_
        refine g_goto (off := -174) (tgt := 20) X (by decide +kernel) (by decide) ?_
        refine g_sub [0, 1, 2, 3, 4, 5, 6] rfl ?_
        exact hr20 x5 x6 x7_21  E
      · refine g_if_ne_t (off := 6) (tgt := 119) X (by decide +kernel) (by decide) c20 ?_
        refine g_aload_n (n := 0) X (by decide +kernel) 0 rfl ?_
        refine g_getS X (by decide +kernel) fl10_57 px0 ?_
        refine g_iload_n (n := 1) X (by decide +kernel) 1 rfl ?_
        refine g_bipush (n := 6) (x := (6 : Int32)) X (by decide +kernel) (by decide) ?_
        refine g_imul X (by decide +kernel) ?_
        refine g_iload (n := 8) X (by decide +kernel) 7 rfl ?_
        refine g_iadd X (by decide +kernel) ?_
        obtain ⟨c22, E⟩ := gd_E E
        refine g_iald X (by decide +kernel) (ly hK px0 fl10_57 rfl) c22 ?_
        obtain ⟨x10_23, ex10_23, E⟩ := lt_E E
        refine s_istore (i := 10) X (by decide +kernel) (by decide) ex10_23 (ls_next (by decide) (Or.inr rfl) (ls_next (by decide) (Or.inr rfl) (ls_next (by decide) (Or.inr rfl) (ls_next (by decide) (Or.inr rfl) (ls_next (by decide) (Or.inr rfl) (ls_next (by decide) (Or.inr rfl) (ls_next (by decide) (Or.inr rfl) (ls_next (by decide) (Or.inr rfl) (ls_next (by decide) (Or.inr rfl) (ls_ins ls_end)))))))))) ?_
        refine g_iload (n := 10) X (by decide +kernel) 9 rfl ?_
        refine g_iconst (n := -1) (x := (-1 : Int32)) X (by decide +kernel) (by decide) ?_
        rcases it_E E with ⟨c24, E⟩ | ⟨c24, E⟩
        · refine g_icmp_ne_f (off := 16) (tgt := 152) X (by decide +kernel) (by decide) (fun z => z c24) ?_
          refine g_aload_n (n := 0) X (by decide +kernel) 0 rfl ?_
          obtain ⟨o25, qo25, po25, E⟩ := ob_E E
          refine g_getR X (by decide +kernel) fl10_12 px0 qo25 ?_
          refine g_getS X (by decide +kernel) fl10_319 po25 ?_
          refine g_iload (n := 7) X (by decide +kernel) 6 rfl ?_
          obtain ⟨c26, E⟩ := gd_E E
          refine g_iald X (by decide +kernel) (ly hK po25 fl10_319 rfl) c26 ?_
          refine g_goto (off := 5) (tgt := 154) X (by decide +kernel) (by decide) ?_
          refine g_sub [0, 1, 2, 3, 4, 5, 6, 7] rfl ?_
          exact w10_bestWay_J154 X hK x0 x1 x3 x4 x5 x6 x7 x8 (h.1 (o25 + 9) x7.toNatClampNeg) hr20 px0 E
        · refine g_icmp_ne_t (off := 16) (tgt := 152) X (by decide +kernel) (by decide) c24 ?_
          refine g_iload (n := 10) X (by decide +kernel) 9 rfl ?_
          refine g_sub [0, 1, 2, 3, 4, 5, 6, 7] rfl ?_
          exact w10_bestWay_J154 X hK x0 x1 x3 x4 x5 x6 x7 x8 x10_23 hr20 px0 E
    · refine g_if_ne_t (off := 100) (tgt := 191) X (by decide +kernel) (by decide) c17 ?_
      obtain ⟨x7_27, ex7_27, E⟩ := lt_E E
      refine s_iinc (i := 7) (n := 1) (y := x7_27) X (by decide +kernel) 6 rfl (by decide) ex7_27 (ls_next (by decide) (Or.inr rfl) (ls_next (by decide) (Or.inr rfl) (ls_next (by decide) (Or.inr rfl) (ls_next (by decide) (Or.inr rfl) (ls_next (by decide) (Or.inr rfl) (ls_next (by decide) (Or.inr rfl) (ls_here (ls_next (by decide) (Or.inr rfl) (ls_next (by decide) (Or.inr rfl) ls_end))))))))) ?_
      refine g_goto (off := -174) (tgt := 20) X (by decide +kernel) (by decide) ?_
      refine g_sub [0, 1, 2, 3, 4, 5, 6] rfl ?_
      exact hr20 x5 x6 x7_27  E
set_option maxHeartbeats 4000000 in
set_option maxRecDepth 20000 in
theorem w10_bestWay_J77 {Γ : CT} {sp : Sp} {K : Ly} {sz n : Nat} {v : Int32} {h : Hp}  {r20 : Int32 → Int32 → Int32 → Option (Int32)}  (X : Ok Γ sp prog_2_method_17_code Rc10 12 (some (.int)) 2 (some (.int v)) sz K h) (hK : LyOk K) (x0 : Nat) (x1 : Int32) (x3 : Int32) (x4 : Int32) (x5 : Int32) (x6 : Int32) (x7 : Int32) (x8 : Int32)  (hr20 : ∀ (x5 : Int32) (x6 : Int32) (x7 : Int32), r20 x5 x6 x7 = some v → Go Γ (0, 0) 20 [(0, .ref x0), (1, .int x1), (3, .int x3), (4, .int x4), (5, .int x5), (6, .int x6), (7, .int x7)] [] sz K h) (px0 : K x0 = some (.inl 10)) (E : f10_bestWay_J77 K n r20 x0 x1 x3 x4 x5 x6 x7 x8 h = some v) : Go Γ (0, 0) 77 [(0, .ref x0), (1, .int x1), (3, .int x3), (4, .int x4), (5, .int x5), (6, .int x6), (7, .int x7), (8, .int x8)] [] sz K h := by
  unfold f10_bestWay_J77 at E
  refine g_iconst (n := 0) (x := (0 : Int32)) X (by decide +kernel) (by decide) ?_
  exact w10_bestWay_J78 X hK x0 x1 x3 x4 x5 x6 x7 x8 (0 : Int32) hr20 px0 E
set_option maxHeartbeats 4000000 in
set_option maxRecDepth 20000 in
theorem w10_bestWay_L20 {Γ : CT} {sp : Sp} {K : Ly} {sz n : Nat} {v : Int32} {h : Hp}  (X : Ok Γ sp prog_2_method_17_code Rc10 12 (some (.int)) 2 (some (.int v)) sz K h) (hK : LyOk K) (x0 : Nat) (x1 : Int32) (x3 : Int32) (x4 : Int32)  (px0 : K x0 = some (.inl 10))  : ∀ (k : Nat) (x5 : Int32) (x6 : Int32) (x7 : Int32), f10_bestWay_L20 K n x0 x1 x3 x4 h  k x5 x6 x7 = some v → Go Γ (0, 0) 20 [(0, .ref x0), (1, .int x1), (3, .int x3), (4, .int x4), (5, .int x5), (6, .int x6), (7, .int x7)] [] sz K h := by
  intro k
  induction k with
  | zero => intro x5 x6 x7 E; cases E
  | succ k ih =>
    intro x5 x6 x7 E
    unfold f10_bestWay_L20 at E
    refine g_iload (n := 7) X (by decide +kernel) 6 rfl ?_
    refine g_aload_n (n := 0) X (by decide +kernel) 0 rfl ?_
    obtain ⟨o4, qo4, po4, E⟩ := ob_E E
    refine g_getR X (by decide +kernel) fl10_12 px0 qo4 ?_
    refine g_getI X (by decide +kernel) fl10_301 po4 ?_
    rcases it_E E with ⟨c5, E⟩ | ⟨c5, E⟩
    · refine g_icmp_ge_t (off := 168) (tgt := 197) X (by decide +kernel) (by decide) c5 ?_
      refine g_iload (n := 5) X (by decide +kernel) 4 rfl ?_
      obtain rfl := Option.some.inj E
      exact g_ireturn X (by decide +kernel)
    · refine g_icmp_ge_f (off := 168) (tgt := 197) X (by decide +kernel) (by decide) c5 ?_
      refine g_aload_n (n := 0) X (by decide +kernel) 0 rfl ?_
      obtain ⟨o6, qo6, po6, E⟩ := ob_E E
      refine g_getR X (by decide +kernel) fl10_12 px0 qo6 ?_
      refine g_getS X (by decide +kernel) fl10_304 po6 ?_
      refine g_iload (n := 7) X (by decide +kernel) 6 rfl ?_
      obtain ⟨c7, E⟩ := gd_E E
      refine g_iald X (by decide +kernel) (ly hK po6 fl10_304 rfl) c7 ?_
      obtain ⟨x8_8, ex8_8, E⟩ := lt_E E
      refine s_istore (i := 8) X (by decide +kernel) (by decide) ex8_8 (ls_next (by decide) (Or.inr rfl) (ls_next (by decide) (Or.inr rfl) (ls_next (by decide) (Or.inr rfl) (ls_next (by decide) (Or.inr rfl) (ls_next (by decide) (Or.inr rfl) (ls_next (by decide) (Or.inr rfl) (ls_next (by decide) (Or.inr rfl) (ls_ins ls_end)))))))) ?_
      refine g_aload_n (n := 0) X (by decide +kernel) 0 rfl ?_
      obtain ⟨o9, qo9, po9, E⟩ := ob_E E
      refine g_getR X (by decide +kernel) fl10_12 px0 qo9 ?_
      refine g_getS X (by decide +kernel) fl10_307 po9 ?_
      refine g_iload (n := 7) X (by decide +kernel) 6 rfl ?_
      obtain ⟨c10, E⟩ := gd_E E
      refine g_iald X (by decide +kernel) (ly hK po9 fl10_307 rfl) c10 ?_
      refine g_iload_n (n := 1) X (by decide +kernel) 1 rfl ?_
      rcases it_E E with ⟨c11, E⟩ | ⟨c11, E⟩
      · refine g_icmp_ne_f (off := 22) (tgt := 77) X (by decide +kernel) (by decide) (fun z => z c11) ?_
        refine g_aload_n (n := 0) X (by decide +kernel) 0 rfl ?_
        obtain ⟨o12, qo12, po12, E⟩ := ob_E E
        refine g_getR X (by decide +kernel) fl10_12 px0 qo12 ?_
        refine g_getS X (by decide +kernel) fl10_310 po12 ?_
        refine g_iload (n := 7) X (by decide +kernel) 6 rfl ?_
        obtain ⟨c13, E⟩ := gd_E E
        refine g_iald X (by decide +kernel) (ly hK po12 fl10_310 rfl) c13 ?_
        refine g_iload (n := 4) X (by decide +kernel) 3 rfl ?_
        have hJ : Go Γ (0, 0) 78 [(0, .ref x0), (1, .int x1), (3, .int x3), (4, .int x4), (5, .int x5), (6, .int x6), (7, .int x7), (8, .int x8_8)] [.int (if (h.1 (o12 + 7) x7.toNatClampNeg) = x4 then (1 : Int32) else (0 : Int32))] sz K h := by
          exact w10_bestWay_J78 X hK x0 x1 x3 x4 x5 x6 x7 x8_8 (if (h.1 (o12 + 7) x7.toNatClampNeg) = x4 then (1 : Int32) else (0 : Int32)) ih px0 E
        clear E
        by_cases c14 : (h.1 (o12 + 7) x7.toNatClampNeg) = x4
        · rw [if_pos c14] at hJ
          refine g_icmp_ne_f (off := 7) (tgt := 77) X (by decide +kernel) (by decide) (fun z => z c14) ?_
          refine g_iconst (n := 1) (x := (1 : Int32)) X (by decide +kernel) (by decide) ?_
          refine g_goto (off := 4) (tgt := 78) X (by decide +kernel) (by decide) ?_
          exact hJ
        · rw [if_neg c14] at hJ
          refine g_icmp_ne_t (off := 7) (tgt := 77) X (by decide +kernel) (by decide) c14 ?_
          refine g_iconst (n := 0) (x := (0 : Int32)) X (by decide +kernel) (by decide) ?_
          exact hJ
      · refine g_icmp_ne_t (off := 22) (tgt := 77) X (by decide +kernel) (by decide) c11 ?_
        exact w10_bestWay_J77 X hK x0 x1 x3 x4 x5 x6 x7 x8_8 ih px0 E
set_option maxHeartbeats 4000000 in
set_option maxRecDepth 20000 in
theorem c10_bestWay {sp : Sp} {K : Ly} {sz n : Nat} (hK : LyOk K) (o : Nat) (a1 : Int32) (a2 : Int32) (a3 : Int32) (h : Hp) (ho : K o = some (.inl 10)) {v : Int32} (E : f10_bestWay K n o a1 a2 a3 h = some v) : Con sp y10_bestWay prog_2_method_17_code 12 (some (.int)) 2 0 0 [.ref o, .int a1, .int a2, .int a3] sz K h (some (.int v)) sz K h := by
  refine Con.of (by decide) (Nat.le_of_ble_eq_true rfl) (fun Γ X _ => ?_)
  show Go Γ (0, 0) 0 [(0, .ref o), (1, .int a1), (2, .int a2), (3, .int a3)] [] sz K h
  unfold f10_bestWay at E
  refine g_aload_n (n := 0) X (by decide +kernel) 0 rfl ?_
  obtain ⟨o1, qo1, po1, E⟩ := ob_E E
  refine g_getR X (by decide +kernel) fl10_12 ho qo1 ?_
  refine g_iload_n (n := 1) X (by decide +kernel) 1 rfl ?_
  refine g_iload_n (n := 2) X (by decide +kernel) 2 rfl ?_
  obtain ⟨y3, e2, E⟩ := bp_E E
  refine g_callV1 (st := []) X [.int a1, .int a2] (by decide +kernel) ml10_298 po1 rfl rfl (by decide) (Nat.le_of_ble_eq_true rfl) (c2_routed hK o1 a1 a2 h po1 e2) ?_
  refine s_istore (i := 4) X (by decide +kernel) (by decide) rfl (ls_next (by decide) (Or.inr rfl) (ls_next (by decide) (Or.inr rfl) (ls_next (by decide) (Or.inr rfl) (ls_next (by decide) (Or.inr rfl) (ls_ins ls_end))))) ?_
  refine g_iconst (n := -1) (x := (-1 : Int32)) X (by decide +kernel) (by decide) ?_
  refine s_istore (i := 5) X (by decide +kernel) (by decide) rfl (ls_next (by decide) (Or.inr rfl) (ls_next (by decide) (Or.inr rfl) (ls_next (by decide) (Or.inr rfl) (ls_next (by decide) (Or.inr rfl) (ls_next (by decide) (Or.inr rfl) (ls_ins ls_end)))))) ?_
  refine g_iconst (n := 0) (x := (0 : Int32)) X (by decide +kernel) (by decide) ?_
  refine s_istore (i := 6) X (by decide +kernel) (by decide) rfl (ls_next (by decide) (Or.inr rfl) (ls_next (by decide) (Or.inr rfl) (ls_next (by decide) (Or.inr rfl) (ls_next (by decide) (Or.inr rfl) (ls_next (by decide) (Or.inr rfl) (ls_next (by decide) (Or.inr rfl) (ls_ins ls_end))))))) ?_
  refine g_iconst (n := 0) (x := (0 : Int32)) X (by decide +kernel) (by decide) ?_
  refine s_istore (i := 7) X (by decide +kernel) (by decide) rfl (ls_next (by decide) (Or.inr rfl) (ls_next (by decide) (Or.inr rfl) (ls_next (by decide) (Or.inr rfl) (ls_next (by decide) (Or.inr rfl) (ls_next (by decide) (Or.inr rfl) (ls_next (by decide) (Or.inr rfl) (ls_next (by decide) (Or.inr rfl) (ls_ins ls_end)))))))) ?_
  refine g_sub [0, 1, 3, 4, 5, 6, 7] rfl ?_
  exact w10_bestWay_L20 X hK o a1 a3 y3 ho n (-1 : Int32) (0 : Int32) (0 : Int32) E
-- Course.goOn
def f10_goOn (K : Ly) (n : Nat) (o : Nat) (a1 : Nat) (h : Hp) : Option (Int32 × Hp) :=
    bp (f10_bestWay K n o (h.1 a1 0) (h.1 a1 1) ((h.1 a1 3) ||| (h.1 a1 8)) h) fun y2 =>
    if y2 = (-1 : Int32) then (
    some ((0 : Int32), h))
    else (
    lt (sI h a1 7 y2) fun h4 =>
    lt (sI h4 a1 8 ((h4.1 a1 8) ||| ((1 : Int32) <<< (y2 &&& 31)))) fun h5 =>
    lt (sI h5 a1 9 (h5.1 o 2)) fun h6 =>
    lt (sI h6 (o + 17) 0 (0 : Int32)) fun h7 =>
    lt (sI h7 (o + 17) 4 (h7.1 a1 1)) fun h8 =>
    lt (sI h8 (o + 17) 5 (h8.1 a1 2)) fun h9 =>
    lt (sI h9 (o + 17) 6 (h9.1 a1 6)) fun h10 =>
    bp (f10_send K n o (h10.1 a1 0) y2 h10) fun h12 =>
    some ((1 : Int32), h12))
set_option maxHeartbeats 4000000 in
set_option maxRecDepth 20000 in
theorem c10_goOn {sp : Sp} {K : Ly} {sz n : Nat} (hK : LyOk K) (o : Nat) (a1 : Nat) (h : Hp) (ho : K o = some (.inl 10)) (ha1 : K a1 = some (.inl 6)) {v : Int32} {hf : Hp} (E : f10_goOn K n o a1 h = some (v, hf)) : Con sp y10_goOn prog_2_method_16_code 3 (some (.boolean)) 3 0 0 [.ref o, .ref a1] sz K h (some (.int v)) sz K hf := by
  refine Con.of (by decide) (Nat.le_of_ble_eq_true rfl) (fun Γ X _ => ?_)
  show Go Γ (0, 0) 0 [(0, .ref o), (1, .ref a1)] [] sz K h
  unfold f10_goOn at E
  refine g_aload_n (n := 0) X (by decide +kernel) 0 rfl ?_
  refine g_aload_n (n := 1) X (by decide +kernel) 1 rfl ?_
  refine g_getI X (by decide +kernel) fl10_213 ha1 ?_
  refine g_aload_n (n := 1) X (by decide +kernel) 1 rfl ?_
  refine g_getI X (by decide +kernel) fl10_274 ha1 ?_
  refine g_aload_n (n := 1) X (by decide +kernel) 1 rfl ?_
  refine g_getI X (by decide +kernel) fl10_276 ha1 ?_
  refine g_aload_n (n := 1) X (by decide +kernel) 1 rfl ?_
  refine g_getI X (by decide +kernel) fl10_282 ha1 ?_
  refine g_ior X (by decide +kernel) ?_
  obtain ⟨y2, e1, E⟩ := bp_E E
  refine g_callV1 (st := []) X [.int (h.1 a1 0), .int (h.1 a1 1), .int ((h.1 a1 3) ||| (h.1 a1 8))] (by decide +kernel) ml10_289 ho rfl rfl (by decide) (Nat.le_of_ble_eq_true rfl) (c10_bestWay hK o (h.1 a1 0) (h.1 a1 1) ((h.1 a1 3) ||| (h.1 a1 8)) h ho e1) ?_
  refine s_istore_n (n := 2) (i := 2) X (by decide +kernel) rfl (by decide) rfl (ls_next (by decide) (Or.inr rfl) (ls_next (by decide) (Or.inr rfl) (ls_ins ls_end))) ?_
  refine g_iload_n (n := 2) X (by decide +kernel) 2 rfl ?_
  refine g_iconst (n := -1) (x := (-1 : Int32)) X (by decide +kernel) (by decide) ?_
  rcases it_E E with ⟨c3, E⟩ | ⟨c3, E⟩
  · refine g_icmp_ne_f (off := 5) (tgt := 29) X (by decide +kernel) (by decide) (fun z => z c3) ?_
    refine g_iconst (n := 0) (x := (0 : Int32)) X (by decide +kernel) (by decide) ?_
    obtain ⟨rfl, rfl⟩ := rt_E E
    exact g_zreturn X (by decide +kernel) rfl
  · refine g_icmp_ne_t (off := 5) (tgt := 29) X (by decide +kernel) (by decide) c3 ?_
    refine g_aload_n (n := 1) X (by decide +kernel) 1 rfl ?_
    refine g_iload_n (n := 2) X (by decide +kernel) 2 rfl ?_
    obtain ⟨h4, eh4, E⟩ := lt_E E
    refine g_putI X (by decide +kernel) fp10_210 ha1 eh4 ?_
    refine g_aload_n (n := 1) X (by decide +kernel) 1 rfl ?_
    refine g_dup X (by decide +kernel) rfl ?_
    refine g_getI X (by decide +kernel) fl10_282 ha1 ?_
    refine g_iconst (n := 1) (x := (1 : Int32)) X (by decide +kernel) (by decide) ?_
    refine g_iload_n (n := 2) X (by decide +kernel) 2 rfl ?_
    refine g_ishl X (by decide +kernel) ?_
    refine g_ior X (by decide +kernel) ?_
    obtain ⟨h5, eh5, E⟩ := lt_E E
    refine g_putI X (by decide +kernel) fp10_282 ha1 eh5 ?_
    refine g_aload_n (n := 1) X (by decide +kernel) 1 rfl ?_
    refine g_aload_n (n := 0) X (by decide +kernel) 0 rfl ?_
    refine g_getI X (by decide +kernel) fl10_22 ho ?_
    obtain ⟨h6, eh6, E⟩ := lt_E E
    refine g_putI X (by decide +kernel) fp10_292 ha1 eh6 ?_
    refine g_aload_n (n := 0) X (by decide +kernel) 0 rfl ?_
    refine g_getS X (by decide +kernel) fl10_54 ho ?_
    refine g_iconst (n := 0) (x := (0 : Int32)) X (by decide +kernel) (by decide) ?_
    obtain ⟨h7, eh7, E⟩ := lt_E E
    refine g_putI X (by decide +kernel) fp10_184 (ly hK ho fl10_54 rfl) eh7 ?_
    refine g_aload_n (n := 0) X (by decide +kernel) 0 rfl ?_
    refine g_getS X (by decide +kernel) fl10_54 ho ?_
    refine g_aload_n (n := 1) X (by decide +kernel) 1 rfl ?_
    refine g_getI X (by decide +kernel) fl10_274 ha1 ?_
    obtain ⟨h8, eh8, E⟩ := lt_E E
    refine g_putI X (by decide +kernel) fp10_198 (ly hK ho fl10_54 rfl) eh8 ?_
    refine g_aload_n (n := 0) X (by decide +kernel) 0 rfl ?_
    refine g_getS X (by decide +kernel) fl10_54 ho ?_
    refine g_aload_n (n := 1) X (by decide +kernel) 1 rfl ?_
    refine g_getI X (by decide +kernel) fl10_275 ha1 ?_
    obtain ⟨h9, eh9, E⟩ := lt_E E
    refine g_putI X (by decide +kernel) fp10_201 (ly hK ho fl10_54 rfl) eh9 ?_
    refine g_aload_n (n := 0) X (by decide +kernel) 0 rfl ?_
    refine g_getS X (by decide +kernel) fl10_54 ho ?_
    refine g_aload_n (n := 1) X (by decide +kernel) 1 rfl ?_
    refine g_getI X (by decide +kernel) fl10_279 ha1 ?_
    obtain ⟨h10, eh10, E⟩ := lt_E E
    refine g_putI X (by decide +kernel) fp10_204 (ly hK ho fl10_54 rfl) eh10 ?_
    refine g_aload_n (n := 0) X (by decide +kernel) 0 rfl ?_
    refine g_aload_n (n := 1) X (by decide +kernel) 1 rfl ?_
    refine g_getI X (by decide +kernel) fl10_213 ha1 ?_
    refine g_iload_n (n := 2) X (by decide +kernel) 2 rfl ?_
    obtain ⟨h12, e11, E⟩ := bp_E E
    refine g_callV0 (st := []) X [.int (h10.1 a1 0), .int y2] (by decide +kernel) ml10_295 ho rfl rfl (by decide) (Nat.le_of_ble_eq_true rfl) (c10_send hK o (h10.1 a1 0) y2 h10 ho e11) ?_
    refine g_iconst (n := 1) (x := (1 : Int32)) X (by decide +kernel) (by decide) ?_
    obtain ⟨rfl, rfl⟩ := rt_E E
    exact g_zreturn X (by decide +kernel) rfl
-- Course.makeEntry
def f10_makeEntry (K : Ly) (n : Nat) (o : Nat) (a1 : Int32) (a2 : Int32) (a3 : Int32) (a4 : Int32) (a5 : Int32) (h : Hp) : Option Hp :=
    if (h.1 o 6) < (360 : Int32) then (
    gd (inb (h.1 o 6) 360) <|
    ob (h.2.2 (o + 14) (h.1 o 6).toNatClampNeg) K 6 fun o3 =>
    lt (sI h o3 0 a1) fun h4 =>
    lt (sI h4 o3 1 a3) fun h5 =>
    lt (sI h5 o3 2 a4) fun h6 =>
    lt (sI h6 o3 3 (0 : Int32)) fun h7 =>
    lt (sL h7 o3 4 (0 : Int64)) fun h8 =>
    lt (sL h8 o3 5 (0 : Int64)) fun h9 =>
    lt (sI h9 o3 6 a5) fun h10 =>
    lt (sI h10 o3 7 (-1 : Int32)) fun h11 =>
    lt (sI h11 o3 8 (0 : Int32)) fun h12 =>
    ob (h12.2.2 o 0) K 2 fun o13 =>
    lt (sI h12 o3 10 ((h12.1 o 2) + (h12.1 o13 1))) fun h14 =>
    bp (f6_join K n o3 a2 a5 h14) fun h16 =>
    bd (f10_goOn K n o o3 h16) fun y19 h18 =>
    if y19 = 0 then (
    bp (f10_sayNack K n o a3 a4 (1 : Int32) a1 h18) fun h22 =>
    bp (f10_answer K n o a1 a2 a5 h22) fun h24 =>
    some h24)
    else (
    lt (sI h18 o 6 ((h18.1 o 6) + (1 : Int32))) fun h25 =>
    some h25))
    else (
    some h)
set_option maxHeartbeats 4000000 in
set_option maxRecDepth 20000 in
theorem c10_makeEntry {sp : Sp} {K : Ly} {sz n : Nat} (hK : LyOk K) (o : Nat) (a1 : Int32) (a2 : Int32) (a3 : Int32) (a4 : Int32) (a5 : Int32) (h : Hp) (ho : K o = some (.inl 10)) {hf : Hp} (E : f10_makeEntry K n o a1 a2 a3 a4 a5 h = some hf) : Con sp y10_makeEntry prog_2_method_15_code 7 none 4 0 0 [.ref o, .int a1, .int a2, .int a3, .int a4, .int a5] sz K h none sz K hf := by
  refine Con.of (by decide) (Nat.le_of_ble_eq_true rfl) (fun Γ X _ => ?_)
  show Go Γ (0, 0) 0 [(0, .ref o), (1, .int a1), (2, .int a2), (3, .int a3), (4, .int a4), (5, .int a5)] [] sz K h
  unfold f10_makeEntry at E
  refine g_aload_n (n := 0) X (by decide +kernel) 0 rfl ?_
  refine g_getI X (by decide +kernel) fl10_37 ho ?_
  refine g_sipush (n := 360) (x := (360 : Int32)) X (by decide +kernel) (by decide) ?_
  rcases it_E E with ⟨c1, E⟩ | ⟨c1, E⟩
  · refine g_icmp_lt_t (off := 4) (tgt := 11) X (by decide +kernel) (by decide) c1 ?_
    refine g_aload_n (n := 0) X (by decide +kernel) 0 rfl ?_
    refine g_getS X (by decide +kernel) fl10_33 ho ?_
    refine g_aload_n (n := 0) X (by decide +kernel) 0 rfl ?_
    refine g_getI X (by decide +kernel) fl10_37 ho ?_
    obtain ⟨c2, E⟩ := gd_E E
    obtain ⟨o3, qo3, po3, E⟩ := ob_E E
    refine g_aald (C := "AskedNames$Entry") X (by decide +kernel) (ly hK ho fl10_33 rfl) rfl rfl c2 qo3 ?_
    refine s_astore (i := 6) X (by decide +kernel) (by decide) rfl (ls_next (by decide) (Or.inr rfl) (ls_next (by decide) (Or.inr rfl) (ls_next (by decide) (Or.inr rfl) (ls_next (by decide) (Or.inr rfl) (ls_next (by decide) (Or.inr rfl) (ls_next (by decide) (Or.inr rfl) (ls_ins ls_end))))))) ?_
    refine g_aload (n := 6) X (by decide +kernel) 6 rfl ?_
    refine g_iload_n (n := 1) X (by decide +kernel) 1 rfl ?_
    obtain ⟨h4, eh4, E⟩ := lt_E E
    refine g_putI X (by decide +kernel) fp10_213 po3 eh4 ?_
    refine g_aload (n := 6) X (by decide +kernel) 6 rfl ?_
    refine g_iload_n (n := 3) X (by decide +kernel) 3 rfl ?_
    obtain ⟨h5, eh5, E⟩ := lt_E E
    refine g_putI X (by decide +kernel) fp10_274 po3 eh5 ?_
    refine g_aload (n := 6) X (by decide +kernel) 6 rfl ?_
    refine g_iload (n := 4) X (by decide +kernel) 4 rfl ?_
    obtain ⟨h6, eh6, E⟩ := lt_E E
    refine g_putI X (by decide +kernel) fp10_275 po3 eh6 ?_
    refine g_aload (n := 6) X (by decide +kernel) 6 rfl ?_
    refine g_iconst (n := 0) (x := (0 : Int32)) X (by decide +kernel) (by decide) ?_
    obtain ⟨h7, eh7, E⟩ := lt_E E
    refine g_putI X (by decide +kernel) fp10_276 po3 eh7 ?_
    refine g_aload (n := 6) X (by decide +kernel) 6 rfl ?_
    refine g_lconst (n := 0) (x := (0 : Int64)) X (by decide +kernel) (by decide) ?_
    obtain ⟨h8, eh8, E⟩ := lt_E E
    refine g_putL X (by decide +kernel) fp10_219 po3 eh8 ?_
    refine g_aload (n := 6) X (by decide +kernel) 6 rfl ?_
    refine g_lconst (n := 0) (x := (0 : Int64)) X (by decide +kernel) (by decide) ?_
    obtain ⟨h9, eh9, E⟩ := lt_E E
    refine g_putL X (by decide +kernel) fp10_229 po3 eh9 ?_
    refine g_aload (n := 6) X (by decide +kernel) 6 rfl ?_
    refine g_iload (n := 5) X (by decide +kernel) 5 rfl ?_
    obtain ⟨h10, eh10, E⟩ := lt_E E
    refine g_putI X (by decide +kernel) fp10_279 po3 eh10 ?_
    refine g_aload (n := 6) X (by decide +kernel) 6 rfl ?_
    refine g_iconst (n := -1) (x := (-1 : Int32)) X (by decide +kernel) (by decide) ?_
    obtain ⟨h11, eh11, E⟩ := lt_E E
    refine g_putI X (by decide +kernel) fp10_210 po3 eh11 ?_
    refine g_aload (n := 6) X (by decide +kernel) 6 rfl ?_
    refine g_iconst (n := 0) (x := (0 : Int32)) X (by decide +kernel) (by decide) ?_
    obtain ⟨h12, eh12, E⟩ := lt_E E
    refine g_putI X (by decide +kernel) fp10_282 po3 eh12 ?_
    refine g_aload (n := 6) X (by decide +kernel) 6 rfl ?_
    refine g_aload_n (n := 0) X (by decide +kernel) 0 rfl ?_
    refine g_getI X (by decide +kernel) fl10_22 ho ?_
    refine g_aload_n (n := 0) X (by decide +kernel) 0 rfl ?_
    obtain ⟨o13, qo13, po13, E⟩ := ob_E E
    refine g_getR X (by decide +kernel) fl10_12 ho qo13 ?_
    refine g_getI X (by decide +kernel) fl10_216 po13 ?_
    refine g_iadd X (by decide +kernel) ?_
    obtain ⟨h14, eh14, E⟩ := lt_E E
    refine g_putI X (by decide +kernel) fp10_207 po3 eh14 ?_
    refine g_aload (n := 6) X (by decide +kernel) 6 rfl ?_
    refine g_iload_n (n := 2) X (by decide +kernel) 2 rfl ?_
    refine g_iload (n := 5) X (by decide +kernel) 5 rfl ?_
    obtain ⟨h16, e15, E⟩ := bp_E E
    refine g_callV0 (st := []) X [.int a2, .int a5] (by decide +kernel) ml10_271 po3 rfl rfl (by decide) (Nat.le_of_ble_eq_true rfl) (c6_join hK o3 a2 a5 h14 po3 e15) ?_
    refine g_aload_n (n := 0) X (by decide +kernel) 0 rfl ?_
    refine g_aload (n := 6) X (by decide +kernel) 6 rfl ?_
    obtain ⟨y19, h18, e17, E⟩ := bd_E E
    refine g_callV1 (st := []) X [.ref o3] (by decide +kernel) ml10_285 ho rfl rfl (by decide) (Nat.le_of_ble_eq_true rfl) (c10_goOn hK o o3 h16 ho po3 e17) ?_
    rcases it_E E with ⟨c20, E⟩ | ⟨c20, E⟩
    · refine g_if_eq_t (off := 16) (tgt := 125) X (by decide +kernel) (by decide) c20 ?_
      refine g_aload_n (n := 0) X (by decide +kernel) 0 rfl ?_
      refine g_iload_n (n := 3) X (by decide +kernel) 3 rfl ?_
      refine g_iload (n := 4) X (by decide +kernel) 4 rfl ?_
      refine g_iconst (n := 1) (x := (1 : Int32)) X (by decide +kernel) (by decide) ?_
      refine g_iload_n (n := 1) X (by decide +kernel) 1 rfl ?_
      obtain ⟨h22, e21, E⟩ := bp_E E
      refine g_callV0 (st := []) X [.int a3, .int a4, .int (1 : Int32), .int a1] (by decide +kernel) ml10_251 ho rfl rfl (by decide) (Nat.le_of_ble_eq_true rfl) (c10_sayNack hK o a3 a4 (1 : Int32) a1 h18 ho e21) ?_
      refine g_aload_n (n := 0) X (by decide +kernel) 0 rfl ?_
      refine g_iload_n (n := 1) X (by decide +kernel) 1 rfl ?_
      refine g_iload_n (n := 2) X (by decide +kernel) 2 rfl ?_
      refine g_iload (n := 5) X (by decide +kernel) 5 rfl ?_
      obtain ⟨h24, e23, E⟩ := bp_E E
      refine g_callV0 (st := []) X [.int a1, .int a2, .int a5] (by decide +kernel) ml10_254 ho rfl rfl (by decide) (Nat.le_of_ble_eq_true rfl) (c10_answer hK o a1 a2 a5 h22 ho e23) ?_
      obtain rfl := Option.some.inj E
      exact g_return X (by decide +kernel)
    · refine g_if_eq_f (off := 16) (tgt := 125) X (by decide +kernel) (by decide) c20 ?_
      refine g_aload_n (n := 0) X (by decide +kernel) 0 rfl ?_
      refine g_dup X (by decide +kernel) rfl ?_
      refine g_getI X (by decide +kernel) fl10_37 ho ?_
      refine g_iconst (n := 1) (x := (1 : Int32)) X (by decide +kernel) (by decide) ?_
      refine g_iadd X (by decide +kernel) ?_
      obtain ⟨h25, eh25, E⟩ := lt_E E
      refine g_putI X (by decide +kernel) fp10_37 ho eh25 ?_
      refine g_goto (off := 20) (tgt := 142) X (by decide +kernel) (by decide) ?_
      obtain rfl := Option.some.inj E
      exact g_return X (by decide +kernel)
  · refine g_icmp_lt_f (off := 4) (tgt := 11) X (by decide +kernel) (by decide) c1 ?_
    obtain rfl := Option.some.inj E
    exact g_return X (by decide +kernel)
-- Course.ask
def f10_ask (K : Ly) (n : Nat) (o : Nat) (a1 : Int32) (a2 : Int32) (a3 : Int32) (a4 : Int32) (h : Hp) : Option Hp :=
    gd (inb a1 60) <|
    ob (h.2.2 (o + 21) a1.toNatClampNeg) K 9 fun o2 =>
    bp (f9_begin K n o2 (h.1 o 2) h) fun h4 =>
    bd (f10_isMet K n o a2 (-1 : Int32) a3 a4 a1 h4) fun y7 h6 =>
    if y7 = 0 then (
    bp (f10_makeEntry K n o a2 (-1 : Int32) a3 a4 a1 h6) fun h10 =>
    some h10)
    else (
    some h6)
set_option maxHeartbeats 4000000 in
set_option maxRecDepth 20000 in
theorem c10_ask {sp : Sp} {K : Ly} {sz n : Nat} (hK : LyOk K) (o : Nat) (a1 : Int32) (a2 : Int32) (a3 : Int32) (a4 : Int32) (h : Hp) (ho : K o = some (.inl 10)) {hf : Hp} (E : f10_ask K n o a1 a2 a3 a4 h = some hf) : Con sp y10_ask prog_2_method_10_code 5 none 5 0 0 [.ref o, .int a1, .int a2, .int a3, .int a4] sz K h none sz K hf := by
  refine Con.of (by decide) (Nat.le_of_ble_eq_true rfl) (fun Γ X _ => ?_)
  show Go Γ (0, 0) 0 [(0, .ref o), (1, .int a1), (2, .int a2), (3, .int a3), (4, .int a4)] [] sz K h
  unfold f10_ask at E
  refine g_aload_n (n := 0) X (by decide +kernel) 0 rfl ?_
  refine g_getS X (by decide +kernel) fl10_73 ho ?_
  refine g_iload_n (n := 1) X (by decide +kernel) 1 rfl ?_
  obtain ⟨c1, E⟩ := gd_E E
  obtain ⟨o2, qo2, po2, E⟩ := ob_E E
  refine g_aald (C := "AskedNames$Fate") X (by decide +kernel) (ly hK ho fl10_73 rfl) rfl rfl c1 qo2 ?_
  refine g_aload_n (n := 0) X (by decide +kernel) 0 rfl ?_
  refine g_getI X (by decide +kernel) fl10_22 ho ?_
  obtain ⟨h4, e3, E⟩ := bp_E E
  refine g_callV0 (st := []) X [.int (h.1 o 2)] (by decide +kernel) ml10_164 po2 rfl rfl (by decide) (Nat.le_of_ble_eq_true rfl) (c9_begin hK o2 (h.1 o 2) h po2 e3) ?_
  refine g_aload_n (n := 0) X (by decide +kernel) 0 rfl ?_
  refine g_iload_n (n := 2) X (by decide +kernel) 2 rfl ?_
  refine g_iconst (n := -1) (x := (-1 : Int32)) X (by decide +kernel) (by decide) ?_
  refine g_iload_n (n := 3) X (by decide +kernel) 3 rfl ?_
  refine g_iload (n := 4) X (by decide +kernel) 4 rfl ?_
  refine g_iload_n (n := 1) X (by decide +kernel) 1 rfl ?_
  obtain ⟨y7, h6, e5, E⟩ := bd_E E
  refine g_callV1 (st := []) X [.int a2, .int (-1 : Int32), .int a3, .int a4, .int a1] (by decide +kernel) ml10_167 ho rfl rfl (by decide) (Nat.le_of_ble_eq_true rfl) (c10_isMet hK o a2 (-1 : Int32) a3 a4 a1 h4 ho e5) ?_
  rcases it_E E with ⟨c8, E⟩ | ⟨c8, E⟩
  · refine g_if_ne_f (off := 13) (tgt := 36) X (by decide +kernel) (by decide) (fun z => z c8) ?_
    refine g_aload_n (n := 0) X (by decide +kernel) 0 rfl ?_
    refine g_iload_n (n := 2) X (by decide +kernel) 2 rfl ?_
    refine g_iconst (n := -1) (x := (-1 : Int32)) X (by decide +kernel) (by decide) ?_
    refine g_iload_n (n := 3) X (by decide +kernel) 3 rfl ?_
    refine g_iload (n := 4) X (by decide +kernel) 4 rfl ?_
    refine g_iload_n (n := 1) X (by decide +kernel) 1 rfl ?_
    obtain ⟨h10, e9, E⟩ := bp_E E
    refine g_callV0 (st := []) X [.int a2, .int (-1 : Int32), .int a3, .int a4, .int a1] (by decide +kernel) ml10_171 ho rfl rfl (by decide) (Nat.le_of_ble_eq_true rfl) (c10_makeEntry hK o a2 (-1 : Int32) a3 a4 a1 h6 ho e9) ?_
    obtain rfl := Option.some.inj E
    exact g_return X (by decide +kernel)
  · refine g_if_ne_t (off := 13) (tgt := 36) X (by decide +kernel) (by decide) c8 ?_
    obtain rfl := Option.some.inj E
    exact g_return X (by decide +kernel)
-- Course.drop
def f10_drop_L9 (K : Ly) (n : Nat) (x0 : Nat) (x2 : Nat)   : Nat → Int32 → Hp → Option Hp
  | 0, _, _ => none
  | k + 1, x3, h =>
    if (h.1 x0 6) ≤ (x3 + (1 : Int32)) then (
    lt (sI h x0 6 ((h.1 x0 6) - (1 : Int32))) fun h4 =>
    gd (inb (h4.1 x0 6) 360) <|
    lt (sR h4 (x0 + 14) (h4.1 x0 6).toNatClampNeg (some x2)) fun h6 =>
    some h6)
    else (
    gd (inb (x3 + (1 : Int32)) 360) <|
    ob (h.2.2 (x0 + 14) (x3 + (1 : Int32)).toNatClampNeg) K 6 fun o8 =>
    gd (inb x3 360) <|
    lt (sR h (x0 + 14) x3.toNatClampNeg (some o8)) fun h10 =>
    lt (x3 + (1 : Int32)) fun x3_11 =>
    f10_drop_L9 K n x0 x2  k x3_11 h10)
def f10_drop (K : Ly) (n : Nat) (o : Nat) (a1 : Int32) (h : Hp) : Option Hp :=
    gd (inb a1 360) <|
    ob (h.2.2 (o + 14) a1.toNatClampNeg) K 6 fun o2 =>
    f10_drop_L9 K n o o2 n a1 h
set_option maxHeartbeats 4000000 in
set_option maxRecDepth 20000 in
theorem w10_drop_L9 {Γ : CT} {sp : Sp} {K : Ly} {sz n : Nat} {hf : Hp}  (X : Ok Γ sp prog_2_method_24_code Rc10 4 none 1 none sz K hf) (hK : LyOk K) (x0 : Nat) (x2 : Nat)  (px0 : K x0 = some (.inl 10)) (px2 : K x2 = some (.inl 6))  : ∀ (k : Nat) (x3 : Int32) (h : Hp), f10_drop_L9 K n x0 x2  k x3 h = some hf → Go Γ (0, 0) 9 [(0, .ref x0), (2, .ref x2), (3, .int x3)] [] sz K h := by
  intro k
  induction k with
  | zero => intro x3 h E; cases E
  | succ k ih =>
    intro x3 h E
    unfold f10_drop_L9 at E
    refine g_iload_n (n := 3) X (by decide +kernel) 2 rfl ?_
    refine g_iconst (n := 1) (x := (1 : Int32)) X (by decide +kernel) (by decide) ?_
    refine g_iadd X (by decide +kernel) ?_
    refine g_aload_n (n := 0) X (by decide +kernel) 0 rfl ?_
    refine g_getI X (by decide +kernel) fl10_37 px0 ?_
    rcases it_E E with ⟨c3, E⟩ | ⟨c3, E⟩
    · refine g_icmp_ge_t (off := 23) (tgt := 39) X (by decide +kernel) (by decide) c3 ?_
      refine g_aload_n (n := 0) X (by decide +kernel) 0 rfl ?_
      refine g_dup X (by decide +kernel) rfl ?_
      refine g_getI X (by decide +kernel) fl10_37 px0 ?_
      refine g_iconst (n := 1) (x := (1 : Int32)) X (by decide +kernel) (by decide) ?_
      refine g_isub X (by decide +kernel) ?_
      obtain ⟨h4, eh4, E⟩ := lt_E E
      refine g_putI X (by decide +kernel) fp10_37 px0 eh4 ?_
      refine g_aload_n (n := 0) X (by decide +kernel) 0 rfl ?_
      refine g_getS X (by decide +kernel) fl10_33 px0 ?_
      refine g_aload_n (n := 0) X (by decide +kernel) 0 rfl ?_
      refine g_getI X (by decide +kernel) fl10_37 px0 ?_
      refine g_aload_n (n := 2) X (by decide +kernel) 1 rfl ?_
      obtain ⟨c5, E⟩ := gd_E E
      obtain ⟨h6, eh6, E⟩ := lt_E E
      refine g_rast (ci := 6) X (by decide +kernel) (ly hK px0 fl10_33 rfl) rfl rfl rfl px2 c5 eh6 ?_
      obtain rfl := Option.some.inj E
      exact g_return X (by decide +kernel)
    · refine g_icmp_ge_f (off := 23) (tgt := 39) X (by decide +kernel) (by decide) c3 ?_
      refine g_aload_n (n := 0) X (by decide +kernel) 0 rfl ?_
      refine g_getS X (by decide +kernel) fl10_33 px0 ?_
      refine g_iload_n (n := 3) X (by decide +kernel) 2 rfl ?_
      refine g_aload_n (n := 0) X (by decide +kernel) 0 rfl ?_
      refine g_getS X (by decide +kernel) fl10_33 px0 ?_
      refine g_iload_n (n := 3) X (by decide +kernel) 2 rfl ?_
      refine g_iconst (n := 1) (x := (1 : Int32)) X (by decide +kernel) (by decide) ?_
      refine g_iadd X (by decide +kernel) ?_
      obtain ⟨c7, E⟩ := gd_E E
      obtain ⟨o8, qo8, po8, E⟩ := ob_E E
      refine g_aald (C := "AskedNames$Entry") X (by decide +kernel) (ly hK px0 fl10_33 rfl) rfl rfl c7 qo8 ?_
      obtain ⟨c9, E⟩ := gd_E E
      obtain ⟨h10, eh10, E⟩ := lt_E E
      refine g_rast (ci := 6) X (by decide +kernel) (ly hK px0 fl10_33 rfl) rfl rfl rfl po8 c9 eh10 ?_
      obtain ⟨x3_11, ex3_11, E⟩ := lt_E E
      refine s_iinc (i := 3) (n := 1) (y := x3_11) X (by decide +kernel) 2 rfl (by decide) ex3_11 (ls_next (by decide) (Or.inr rfl) (ls_next (by decide) (Or.inr rfl) (ls_here ls_end))) ?_
      refine g_goto (off := -27) (tgt := 9) X (by decide +kernel) (by decide) ?_
      exact ih x3_11 h10  E
set_option maxHeartbeats 4000000 in
set_option maxRecDepth 20000 in
theorem c10_drop {sp : Sp} {K : Ly} {sz n : Nat} (hK : LyOk K) (o : Nat) (a1 : Int32) (h : Hp) (ho : K o = some (.inl 10)) {hf : Hp} (E : f10_drop K n o a1 h = some hf) : Con sp y10_drop prog_2_method_24_code 4 none 1 0 0 [.ref o, .int a1] sz K h none sz K hf := by
  refine Con.of (by decide) (Nat.le_of_ble_eq_true rfl) (fun Γ X _ => ?_)
  show Go Γ (0, 0) 0 [(0, .ref o), (1, .int a1)] [] sz K h
  unfold f10_drop at E
  refine g_aload_n (n := 0) X (by decide +kernel) 0 rfl ?_
  refine g_getS X (by decide +kernel) fl10_33 ho ?_
  refine g_iload_n (n := 1) X (by decide +kernel) 1 rfl ?_
  obtain ⟨c1, E⟩ := gd_E E
  obtain ⟨o2, qo2, po2, E⟩ := ob_E E
  refine g_aald (C := "AskedNames$Entry") X (by decide +kernel) (ly hK ho fl10_33 rfl) rfl rfl c1 qo2 ?_
  refine s_astore_n (n := 2) (i := 2) X (by decide +kernel) rfl (by decide) rfl (ls_next (by decide) (Or.inr rfl) (ls_next (by decide) (Or.inr rfl) (ls_ins ls_end))) ?_
  refine g_iload_n (n := 1) X (by decide +kernel) 1 rfl ?_
  refine s_istore_n (n := 3) (i := 3) X (by decide +kernel) rfl (by decide) rfl (ls_next (by decide) (Or.inr rfl) (ls_next (by decide) (Or.inr rfl) (ls_next (by decide) (Or.inr rfl) (ls_ins ls_end)))) ?_
  refine g_sub [0, 2, 3] rfl ?_
  exact w10_drop_L9 X hK o o2 ho po2 n a1 h E
-- Course.endEntries
def f10_endEntries_L70 (K : Ly) (n : Nat) (x0 : Nat) (x1 : Int32) (x2 : Int32) (x3 : Nat)  (r7 : Int32 → Int32 → Hp → Option Hp) : Nat → Int32 → Hp → Option Hp
  | 0, _, _ => none
  | k + 1, x4, h =>
    if (60 : Int32) ≤ x4 then (
    gd (inb (h.1 x3 0) 6) <|
    gd (inb (h.1 x3 0) 6) <|
    lt (sL h (x0 + 19) (h.1 x3 0).toNatClampNeg ((h.2.1 (x0 + 19) (h.1 x3 0).toNatClampNeg) ||| (h.2.1 x3 5))) fun h15 =>
    bp (f10_drop K n x0 x1 h15) fun h17 =>
    lt (x2 + (-1 : Int32)) fun x2_18 =>
    r7 x1 x2_18 h17)
    else (
    if (lg_cmp ((h.2.1 x3 4) &&& ((1 : Int64) <<< (x4.toInt64 &&& 63))) (0 : Int64)) = 0 then (
    lt (x4 + (1 : Int32)) fun x4_20 =>
    f10_endEntries_L70 K n x0 x1 x2 x3 r7 k x4_20 h)
    else (
    gd (inb x4 60) <|
    ob (h.2.2 (x0 + 21) x4.toNatClampNeg) K 9 fun o22 =>
    lt (sI h o22 0 (3 : Int32)) fun h23 =>
    gd (inb x4 60) <|
    ob (h23.2.2 (x0 + 21) x4.toNatClampNeg) K 9 fun o25 =>
    lt (sI h23 o25 2 (h23.1 x0 2)) fun h26 =>
    lt (x4 + (1 : Int32)) fun x4_27 =>
    f10_endEntries_L70 K n x0 x1 x2 x3 r7 k x4_27 h26))
def f10_endEntries_J67 (K : Ly) (n : Nat) (r7 : Int32 → Int32 → Hp → Option Hp) (x0 : Nat) (x1 : Int32) (x2 : Int32) (x3 : Nat) (h : Hp) : Option Hp :=
    f10_endEntries_L70 K n x0 x1 x2 x3 (r7) n (0 : Int32) h
def f10_endEntries_L7 (K : Ly) (n : Nat) (x0 : Nat)   : Nat → Int32 → Int32 → Hp → Option Hp
  | 0, _, _, _ => none
  | k + 1, x1, x2, h =>
    if x2 ≤ 0 then (
    some h)
    else (
    gd (inb x1 360) <|
    ob (h.2.2 (x0 + 14) x1.toNatClampNeg) K 6 fun o4 =>
    if (h.1 o4 10) = (h.1 x0 2) then (
    if (h.1 o4 7) = (-1 : Int32) then (
    f10_endEntries_J67 K n (f10_endEntries_L7 K n x0  k) x0 x1 x2 o4 h)
    else (
    ob (h.2.2 x0 0) K 2 fun o7 =>
    gd (inb (((h.1 o4 0) * (6 : Int32)) + (h.1 o4 7)) 36) <|
    lt (sI h (x0 + 18) (((h.1 o4 0) * (6 : Int32)) + (h.1 o4 7)).toNatClampNeg (h.1 o7 1)) fun h9 =>
    f10_endEntries_J67 K n (f10_endEntries_L7 K n x0  k) x0 x1 x2 o4 h9))
    else (
    lt (x1 + (1 : Int32)) fun x1_10 =>
    lt (x2 + (-1 : Int32)) fun x2_11 =>
    f10_endEntries_L7 K n x0  k x1_10 x2_11 h))
def f10_endEntries (K : Ly) (n : Nat) (o : Nat) (h : Hp) : Option Hp :=
    lt (h.1 o 6) fun x2_1 =>
    f10_endEntries_L7 K n o n (0 : Int32) x2_1 h
set_option maxHeartbeats 4000000 in
set_option maxRecDepth 20000 in
theorem w10_endEntries_L70 {Γ : CT} {sp : Sp} {K : Ly} {sz n : Nat} {hf : Hp}  (X : Ok Γ sp prog_2_method_12_code Rc10 5 none 2 none sz K hf) (hK : LyOk K) (x0 : Nat) (x1 : Int32) (x2 : Int32) (x3 : Nat)  {r7 : Int32 → Int32 → Hp → Option Hp} (px0 : K x0 = some (.inl 10)) (px3 : K x3 = some (.inl 6)) (hr7 : ∀ (x1 : Int32) (x2 : Int32) (h : Hp), r7 x1 x2 h = some hf → Go Γ (0, 0) 7 [(0, .ref x0), (1, .int x1), (2, .int x2)] [] sz K h) : ∀ (k : Nat) (x4 : Int32) (h : Hp), f10_endEntries_L70 K n x0 x1 x2 x3 r7 k x4 h = some hf → Go Γ (0, 0) 70 [(0, .ref x0), (1, .int x1), (2, .int x2), (3, .ref x3), (4, .int x4)] [] sz K h := by
  intro k
  induction k with
  | zero => intro x4 h E; cases E
  | succ k ih =>
    intro x4 h E
    unfold f10_endEntries_L70 at E
    refine g_iload (n := 4) X (by decide +kernel) 4 rfl ?_
    refine g_bipush (n := 60) (x := (60 : Int32)) X (by decide +kernel) (by decide) ?_
    rcases it_E E with ⟨c12, E⟩ | ⟨c12, E⟩
    · refine g_icmp_ge_t (off := 48) (tgt := 122) X (by decide +kernel) (by decide) c12 ?_
      refine g_aload_n (n := 0) X (by decide +kernel) 0 rfl ?_
      refine g_getS X (by decide +kernel) fl10_61 px0 ?_
      refine g_aload_n (n := 3) X (by decide +kernel) 3 rfl ?_
      refine g_getI X (by decide +kernel) fl10_213 px3 ?_
      refine g_dup2 X (by decide +kernel) rfl rfl ?_
      obtain ⟨c13, E⟩ := gd_E E
      refine g_lald X (by decide +kernel) (ly hK px0 fl10_61 rfl) c13 ?_
      refine g_aload_n (n := 3) X (by decide +kernel) 3 rfl ?_
      refine g_getL X (by decide +kernel) fl10_229 px3 ?_
      refine g_lor X (by decide +kernel) ?_
      obtain ⟨c14, E⟩ := gd_E E
      obtain ⟨h15, eh15, E⟩ := lt_E E
      refine g_last X (by decide +kernel) (ly hK px0 fl10_61 rfl) c14 eh15 ?_
      refine g_aload_n (n := 0) X (by decide +kernel) 0 rfl ?_
      refine g_iload_n (n := 1) X (by decide +kernel) 1 rfl ?_
      obtain ⟨h17, e16, E⟩ := bp_E E
      refine g_callV0 (st := []) X [.int x1] (by decide +kernel) ml10_232 px0 rfl rfl (by decide) (Nat.le_of_ble_eq_true rfl) (c10_drop hK x0 x1 h15 px0 e16) ?_
      obtain ⟨x2_18, ex2_18, E⟩ := lt_E E
      refine s_iinc (i := 2) (n := -1) (y := x2_18) X (by decide +kernel) 2 rfl (by decide) (by rw [show Int32.ofInt (-1) = (-1 : Int32) from by decide]; exact ex2_18) (ls_next (by decide) (Or.inr rfl) (ls_next (by decide) (Or.inr rfl) (ls_here (ls_next (by decide) (Or.inr rfl) (ls_next (by decide) (Or.inr rfl) ls_end))))) ?_
      refine g_goto (off := -139) (tgt := 7) X (by decide +kernel) (by decide) ?_
      refine g_sub [0, 1, 2] rfl ?_
      exact hr7 x1 x2_18 h17  E
    · refine g_icmp_ge_f (off := 48) (tgt := 122) X (by decide +kernel) (by decide) c12 ?_
      refine g_aload_n (n := 3) X (by decide +kernel) 3 rfl ?_
      refine g_getL X (by decide +kernel) fl10_219 px3 ?_
      refine g_lconst (n := 1) (x := (1 : Int64)) X (by decide +kernel) (by decide) ?_
      refine g_iload (n := 4) X (by decide +kernel) 4 rfl ?_
      refine g_lshl X (by decide +kernel) ?_
      refine g_land X (by decide +kernel) ?_
      refine g_lconst (n := 0) (x := (0 : Int64)) X (by decide +kernel) (by decide) ?_
      refine g_lcmp X (by decide +kernel) ?_
      rcases it_E E with ⟨c19, E⟩ | ⟨c19, E⟩
      · refine g_if_eq_t (off := 28) (tgt := 116) X (by decide +kernel) (by decide) c19 ?_
        obtain ⟨x4_20, ex4_20, E⟩ := lt_E E
        refine s_iinc (i := 4) (n := 1) (y := x4_20) X (by decide +kernel) 4 rfl (by decide) ex4_20 (ls_next (by decide) (Or.inr rfl) (ls_next (by decide) (Or.inr rfl) (ls_next (by decide) (Or.inr rfl) (ls_next (by decide) (Or.inr rfl) (ls_here ls_end))))) ?_
        refine g_goto (off := -49) (tgt := 70) X (by decide +kernel) (by decide) ?_
        exact ih x4_20 h  E
      · refine g_if_eq_f (off := 28) (tgt := 116) X (by decide +kernel) (by decide) c19 ?_
        refine g_aload_n (n := 0) X (by decide +kernel) 0 rfl ?_
        refine g_getS X (by decide +kernel) fl10_73 px0 ?_
        refine g_iload (n := 4) X (by decide +kernel) 4 rfl ?_
        obtain ⟨c21, E⟩ := gd_E E
        obtain ⟨o22, qo22, po22, E⟩ := ob_E E
        refine g_aald (C := "AskedNames$Fate") X (by decide +kernel) (ly hK px0 fl10_73 rfl) rfl rfl c21 qo22 ?_
        refine g_iconst (n := 3) (x := (3 : Int32)) X (by decide +kernel) (by decide) ?_
        obtain ⟨h23, eh23, E⟩ := lt_E E
        refine g_putI X (by decide +kernel) fp10_223 po22 eh23 ?_
        refine g_aload_n (n := 0) X (by decide +kernel) 0 rfl ?_
        refine g_getS X (by decide +kernel) fl10_73 px0 ?_
        refine g_iload (n := 4) X (by decide +kernel) 4 rfl ?_
        obtain ⟨c24, E⟩ := gd_E E
        obtain ⟨o25, qo25, po25, E⟩ := ob_E E
        refine g_aald (C := "AskedNames$Fate") X (by decide +kernel) (ly hK px0 fl10_73 rfl) rfl rfl c24 qo25 ?_
        refine g_aload_n (n := 0) X (by decide +kernel) 0 rfl ?_
        refine g_getI X (by decide +kernel) fl10_22 px0 ?_
        obtain ⟨h26, eh26, E⟩ := lt_E E
        refine g_putI X (by decide +kernel) fp10_226 po25 eh26 ?_
        obtain ⟨x4_27, ex4_27, E⟩ := lt_E E
        refine s_iinc (i := 4) (n := 1) (y := x4_27) X (by decide +kernel) 4 rfl (by decide) ex4_27 (ls_next (by decide) (Or.inr rfl) (ls_next (by decide) (Or.inr rfl) (ls_next (by decide) (Or.inr rfl) (ls_next (by decide) (Or.inr rfl) (ls_here ls_end))))) ?_
        refine g_goto (off := -49) (tgt := 70) X (by decide +kernel) (by decide) ?_
        exact ih x4_27 h26  E
set_option maxHeartbeats 4000000 in
set_option maxRecDepth 20000 in
theorem w10_endEntries_J67 {Γ : CT} {sp : Sp} {K : Ly} {sz n : Nat} {hf : Hp}  {r7 : Int32 → Int32 → Hp → Option Hp}  (X : Ok Γ sp prog_2_method_12_code Rc10 5 none 2 none sz K hf) (hK : LyOk K) (x0 : Nat) (x1 : Int32) (x2 : Int32) (x3 : Nat) (h : Hp) (hr7 : ∀ (x1 : Int32) (x2 : Int32) (h : Hp), r7 x1 x2 h = some hf → Go Γ (0, 0) 7 [(0, .ref x0), (1, .int x1), (2, .int x2)] [] sz K h) (px0 : K x0 = some (.inl 10)) (px3 : K x3 = some (.inl 6)) (E : f10_endEntries_J67 K n r7 x0 x1 x2 x3 h = some hf) : Go Γ (0, 0) 67 [(0, .ref x0), (1, .int x1), (2, .int x2), (3, .ref x3)] [] sz K h := by
  unfold f10_endEntries_J67 at E
  refine g_iconst (n := 0) (x := (0 : Int32)) X (by decide +kernel) (by decide) ?_
  refine s_istore (i := 4) X (by decide +kernel) (by decide) rfl (ls_next (by decide) (Or.inr rfl) (ls_next (by decide) (Or.inr rfl) (ls_next (by decide) (Or.inr rfl) (ls_next (by decide) (Or.inr rfl) (ls_ins ls_end))))) ?_
  exact w10_endEntries_L70 X hK x0 x1 x2 x3 px0 px3 hr7 n (0 : Int32) h E
set_option maxHeartbeats 4000000 in
set_option maxRecDepth 20000 in
theorem w10_endEntries_L7 {Γ : CT} {sp : Sp} {K : Ly} {sz n : Nat} {hf : Hp}  (X : Ok Γ sp prog_2_method_12_code Rc10 5 none 2 none sz K hf) (hK : LyOk K) (x0 : Nat)  (px0 : K x0 = some (.inl 10))  : ∀ (k : Nat) (x1 : Int32) (x2 : Int32) (h : Hp), f10_endEntries_L7 K n x0  k x1 x2 h = some hf → Go Γ (0, 0) 7 [(0, .ref x0), (1, .int x1), (2, .int x2)] [] sz K h := by
  intro k
  induction k with
  | zero => intro x1 x2 h E; cases E
  | succ k ih =>
    intro x1 x2 h E
    unfold f10_endEntries_L7 at E
    refine g_iload_n (n := 2) X (by decide +kernel) 2 rfl ?_
    rcases it_E E with ⟨c2, E⟩ | ⟨c2, E⟩
    · refine g_if_le_t (off := 141) (tgt := 149) X (by decide +kernel) (by decide) c2 ?_
      obtain rfl := Option.some.inj E
      exact g_return X (by decide +kernel)
    · refine g_if_le_f (off := 141) (tgt := 149) X (by decide +kernel) (by decide) c2 ?_
      refine g_aload_n (n := 0) X (by decide +kernel) 0 rfl ?_
      refine g_getS X (by decide +kernel) fl10_33 px0 ?_
      refine g_iload_n (n := 1) X (by decide +kernel) 1 rfl ?_
      obtain ⟨c3, E⟩ := gd_E E
      obtain ⟨o4, qo4, po4, E⟩ := ob_E E
      refine g_aald (C := "AskedNames$Entry") X (by decide +kernel) (ly hK px0 fl10_33 rfl) rfl rfl c3 qo4 ?_
      refine s_astore_n (n := 3) (i := 3) X (by decide +kernel) rfl (by decide) rfl (ls_next (by decide) (Or.inr rfl) (ls_next (by decide) (Or.inr rfl) (ls_next (by decide) (Or.inr rfl) (ls_ins ls_end)))) ?_
      refine g_aload_n (n := 3) X (by decide +kernel) 3 rfl ?_
      refine g_getI X (by decide +kernel) fl10_207 po4 ?_
      refine g_aload_n (n := 0) X (by decide +kernel) 0 rfl ?_
      refine g_getI X (by decide +kernel) fl10_22 px0 ?_
      rcases it_E E with ⟨c5, E⟩ | ⟨c5, E⟩
      · refine g_icmp_eq_t (off := 9) (tgt := 35) X (by decide +kernel) (by decide) c5 ?_
        refine g_aload_n (n := 3) X (by decide +kernel) 3 rfl ?_
        refine g_getI X (by decide +kernel) fl10_210 po4 ?_
        refine g_iconst (n := -1) (x := (-1 : Int32)) X (by decide +kernel) (by decide) ?_
        rcases it_E E with ⟨c6, E⟩ | ⟨c6, E⟩
        · refine g_icmp_eq_t (off := 27) (tgt := 67) X (by decide +kernel) (by decide) c6 ?_
          exact w10_endEntries_J67 X hK x0 x1 x2 o4 h ih px0 po4 E
        · refine g_icmp_eq_f (off := 27) (tgt := 67) X (by decide +kernel) (by decide) c6 ?_
          refine g_aload_n (n := 0) X (by decide +kernel) 0 rfl ?_
          refine g_getS X (by decide +kernel) fl10_57 px0 ?_
          refine g_aload_n (n := 3) X (by decide +kernel) 3 rfl ?_
          refine g_getI X (by decide +kernel) fl10_213 po4 ?_
          refine g_bipush (n := 6) (x := (6 : Int32)) X (by decide +kernel) (by decide) ?_
          refine g_imul X (by decide +kernel) ?_
          refine g_aload_n (n := 3) X (by decide +kernel) 3 rfl ?_
          refine g_getI X (by decide +kernel) fl10_210 po4 ?_
          refine g_iadd X (by decide +kernel) ?_
          refine g_aload_n (n := 0) X (by decide +kernel) 0 rfl ?_
          obtain ⟨o7, qo7, po7, E⟩ := ob_E E
          refine g_getR X (by decide +kernel) fl10_12 px0 qo7 ?_
          refine g_getI X (by decide +kernel) fl10_216 po7 ?_
          obtain ⟨c8, E⟩ := gd_E E
          obtain ⟨h9, eh9, E⟩ := lt_E E
          refine g_iast X (by decide +kernel) (ly hK px0 fl10_57 rfl) c8 eh9 ?_
          exact w10_endEntries_J67 X hK x0 x1 x2 o4 h9 ih px0 po4 E
      · refine g_icmp_eq_f (off := 9) (tgt := 35) X (by decide +kernel) (by decide) c5 ?_
        obtain ⟨x1_10, ex1_10, E⟩ := lt_E E
        refine s_iinc (i := 1) (n := 1) (y := x1_10) X (by decide +kernel) 1 rfl (by decide) ex1_10 (ls_next (by decide) (Or.inr rfl) (ls_here (ls_next (by decide) (Or.inr rfl) (ls_next (by decide) (Or.inr rfl) ls_end)))) ?_
        refine g_goto (off := 111) (tgt := 143) X (by decide +kernel) (by decide) ?_
        obtain ⟨x2_11, ex2_11, E⟩ := lt_E E
        refine s_iinc (i := 2) (n := -1) (y := x2_11) X (by decide +kernel) 2 rfl (by decide) (by rw [show Int32.ofInt (-1) = (-1 : Int32) from by decide]; exact ex2_11) (ls_next (by decide) (Or.inr rfl) (ls_next (by decide) (Or.inr rfl) (ls_here (ls_next (by decide) (Or.inr rfl) ls_end)))) ?_
        refine g_goto (off := -139) (tgt := 7) X (by decide +kernel) (by decide) ?_
        refine g_sub [0, 1, 2] rfl ?_
        exact ih x1_10 x2_11 h  E
set_option maxHeartbeats 4000000 in
set_option maxRecDepth 20000 in
theorem c10_endEntries {sp : Sp} {K : Ly} {sz n : Nat} (hK : LyOk K) (o : Nat) (h : Hp) (ho : K o = some (.inl 10)) {hf : Hp} (E : f10_endEntries K n o h = some hf) : Con sp y10_endEntries prog_2_method_12_code 5 none 2 0 0 [.ref o] sz K h none sz K hf := by
  refine Con.of (by decide) (Nat.le_of_ble_eq_true rfl) (fun Γ X _ => ?_)
  show Go Γ (0, 0) 0 [(0, .ref o)] [] sz K h
  unfold f10_endEntries at E
  refine g_iconst (n := 0) (x := (0 : Int32)) X (by decide +kernel) (by decide) ?_
  refine s_istore_n (n := 1) (i := 1) X (by decide +kernel) rfl (by decide) rfl (ls_next (by decide) (Or.inr rfl) (ls_ins ls_end)) ?_
  refine g_aload_n (n := 0) X (by decide +kernel) 0 rfl ?_
  refine g_getI X (by decide +kernel) fl10_37 ho ?_
  obtain ⟨x2_1, ex2_1, E⟩ := lt_E E
  refine s_istore_n (n := 2) (i := 2) X (by decide +kernel) rfl (by decide) ex2_1 (ls_next (by decide) (Or.inr rfl) (ls_next (by decide) (Or.inr rfl) (ls_ins ls_end))) ?_
  exact w10_endEntries_L7 X hK o ho n (0 : Int32) x2_1 h E
-- Course.land
def f10_land_L17 (K : Ly) (n : Nat) (x0 : Nat) (x2 : Nat)   : Nat → Int32 → Hp → Option Hp
  | 0, _, _ => none
  | k + 1, x3, h =>
    if (h.1 x0 8) ≤ (x3 + (1 : Int32)) then (
    lt (sI h x0 8 ((h.1 x0 8) - (1 : Int32))) fun h6 =>
    gd (inb (h6.1 x0 8) 360) <|
    lt (sR h6 (x0 + 15) (h6.1 x0 8).toNatClampNeg (some x2)) fun h8 =>
    some h8)
    else (
    gd (inb (x3 + (1 : Int32)) 360) <|
    ob (h.2.2 (x0 + 15) (x3 + (1 : Int32)).toNatClampNeg) K 7 fun o10 =>
    gd (inb x3 360) <|
    lt (sR h (x0 + 15) x3.toNatClampNeg (some o10)) fun h12 =>
    lt (x3 + (1 : Int32)) fun x3_13 =>
    f10_land_L17 K n x0 x2  k x3_13 h12)
def f10_land (K : Ly) (n : Nat) (o : Nat) (a1 : Int32) (h : Hp) : Option Hp :=
    gd (inb a1 360) <|
    ob (h.2.2 (o + 15) a1.toNatClampNeg) K 7 fun o2 =>
    bp (f7_copy K n (o + 16) o2 h) fun h4 =>
    f10_land_L17 K n o o2 n a1 h4
set_option maxHeartbeats 4000000 in
set_option maxRecDepth 20000 in
theorem w10_land_L17 {Γ : CT} {sp : Sp} {K : Ly} {sz n : Nat} {hf : Hp}  (X : Ok Γ sp prog_2_method_13_code Rc10 4 none 2 none sz K hf) (hK : LyOk K) (x0 : Nat) (x2 : Nat)  (px0 : K x0 = some (.inl 10)) (px2 : K x2 = some (.inl 7))  : ∀ (k : Nat) (x3 : Int32) (h : Hp), f10_land_L17 K n x0 x2  k x3 h = some hf → Go Γ (0, 0) 17 [(0, .ref x0), (2, .ref x2), (3, .int x3)] [] sz K h := by
  intro k
  induction k with
  | zero => intro x3 h E; cases E
  | succ k ih =>
    intro x3 h E
    unfold f10_land_L17 at E
    refine g_iload_n (n := 3) X (by decide +kernel) 2 rfl ?_
    refine g_iconst (n := 1) (x := (1 : Int32)) X (by decide +kernel) (by decide) ?_
    refine g_iadd X (by decide +kernel) ?_
    refine g_aload_n (n := 0) X (by decide +kernel) 0 rfl ?_
    refine g_getI X (by decide +kernel) fl10_46 px0 ?_
    rcases it_E E with ⟨c5, E⟩ | ⟨c5, E⟩
    · refine g_icmp_ge_t (off := 23) (tgt := 47) X (by decide +kernel) (by decide) c5 ?_
      refine g_aload_n (n := 0) X (by decide +kernel) 0 rfl ?_
      refine g_dup X (by decide +kernel) rfl ?_
      refine g_getI X (by decide +kernel) fl10_46 px0 ?_
      refine g_iconst (n := 1) (x := (1 : Int32)) X (by decide +kernel) (by decide) ?_
      refine g_isub X (by decide +kernel) ?_
      obtain ⟨h6, eh6, E⟩ := lt_E E
      refine g_putI X (by decide +kernel) fp10_46 px0 eh6 ?_
      refine g_aload_n (n := 0) X (by decide +kernel) 0 rfl ?_
      refine g_getS X (by decide +kernel) fl10_42 px0 ?_
      refine g_aload_n (n := 0) X (by decide +kernel) 0 rfl ?_
      refine g_getI X (by decide +kernel) fl10_46 px0 ?_
      refine g_aload_n (n := 2) X (by decide +kernel) 1 rfl ?_
      obtain ⟨c7, E⟩ := gd_E E
      obtain ⟨h8, eh8, E⟩ := lt_E E
      refine g_rast (ci := 7) X (by decide +kernel) (ly hK px0 fl10_42 rfl) rfl rfl rfl px2 c7 eh8 ?_
      obtain rfl := Option.some.inj E
      exact g_return X (by decide +kernel)
    · refine g_icmp_ge_f (off := 23) (tgt := 47) X (by decide +kernel) (by decide) c5 ?_
      refine g_aload_n (n := 0) X (by decide +kernel) 0 rfl ?_
      refine g_getS X (by decide +kernel) fl10_42 px0 ?_
      refine g_iload_n (n := 3) X (by decide +kernel) 2 rfl ?_
      refine g_aload_n (n := 0) X (by decide +kernel) 0 rfl ?_
      refine g_getS X (by decide +kernel) fl10_42 px0 ?_
      refine g_iload_n (n := 3) X (by decide +kernel) 2 rfl ?_
      refine g_iconst (n := 1) (x := (1 : Int32)) X (by decide +kernel) (by decide) ?_
      refine g_iadd X (by decide +kernel) ?_
      obtain ⟨c9, E⟩ := gd_E E
      obtain ⟨o10, qo10, po10, E⟩ := ob_E E
      refine g_aald (C := "AskedNames$Message") X (by decide +kernel) (ly hK px0 fl10_42 rfl) rfl rfl c9 qo10 ?_
      obtain ⟨c11, E⟩ := gd_E E
      obtain ⟨h12, eh12, E⟩ := lt_E E
      refine g_rast (ci := 7) X (by decide +kernel) (ly hK px0 fl10_42 rfl) rfl rfl rfl po10 c11 eh12 ?_
      obtain ⟨x3_13, ex3_13, E⟩ := lt_E E
      refine s_iinc (i := 3) (n := 1) (y := x3_13) X (by decide +kernel) 2 rfl (by decide) ex3_13 (ls_next (by decide) (Or.inr rfl) (ls_next (by decide) (Or.inr rfl) (ls_here ls_end))) ?_
      refine g_goto (off := -27) (tgt := 17) X (by decide +kernel) (by decide) ?_
      exact ih x3_13 h12  E
set_option maxHeartbeats 4000000 in
set_option maxRecDepth 20000 in
theorem c10_land {sp : Sp} {K : Ly} {sz n : Nat} (hK : LyOk K) (o : Nat) (a1 : Int32) (h : Hp) (ho : K o = some (.inl 10)) {hf : Hp} (E : f10_land K n o a1 h = some hf) : Con sp y10_land prog_2_method_13_code 4 none 2 0 0 [.ref o, .int a1] sz K h none sz K hf := by
  refine Con.of (by decide) (Nat.le_of_ble_eq_true rfl) (fun Γ X _ => ?_)
  show Go Γ (0, 0) 0 [(0, .ref o), (1, .int a1)] [] sz K h
  unfold f10_land at E
  refine g_aload_n (n := 0) X (by decide +kernel) 0 rfl ?_
  refine g_getS X (by decide +kernel) fl10_42 ho ?_
  refine g_iload_n (n := 1) X (by decide +kernel) 1 rfl ?_
  obtain ⟨c1, E⟩ := gd_E E
  obtain ⟨o2, qo2, po2, E⟩ := ob_E E
  refine g_aald (C := "AskedNames$Message") X (by decide +kernel) (ly hK ho fl10_42 rfl) rfl rfl c1 qo2 ?_
  refine s_astore_n (n := 2) (i := 2) X (by decide +kernel) rfl (by decide) rfl (ls_next (by decide) (Or.inr rfl) (ls_next (by decide) (Or.inr rfl) (ls_ins ls_end))) ?_
  refine g_aload_n (n := 0) X (by decide +kernel) 0 rfl ?_
  refine g_getS X (by decide +kernel) fl10_50 ho ?_
  refine g_aload_n (n := 2) X (by decide +kernel) 2 rfl ?_
  obtain ⟨h4, e3, E⟩ := bp_E E
  refine g_callV0 (st := []) X [.ref o2] (by decide +kernel) ml10_235 (ly hK ho fl10_50 rfl) rfl rfl (by decide) (Nat.le_of_ble_eq_true rfl) (c7_copy hK (o + 16) o2 h (ly hK ho fl10_50 rfl) po2 e3) ?_
  refine g_iload_n (n := 1) X (by decide +kernel) 1 rfl ?_
  refine s_istore_n (n := 3) (i := 3) X (by decide +kernel) rfl (by decide) rfl (ls_next (by decide) (Or.inr rfl) (ls_next (by decide) (Or.inr rfl) (ls_next (by decide) (Or.inr rfl) (ls_ins ls_end)))) ?_
  refine g_sub [0, 2, 3] rfl ?_
  exact w10_land_L17 X hK o o2 ho po2 n a1 h4 E
-- Course.isServed
def f10_isServed (o : Nat) (a1 : Nat) (a2 : Int32) (a3 : Int32) (h : Hp) : Int32 :=
    (if (h.1 a1 0) = a2 then (if (h.1 a1 1) = (h.1 (o + 16) 4) then (if (h.1 a1 2) = 0 then (1 : Int32) else (if a3 = 0 then (0 : Int32) else (1 : Int32))) else (0 : Int32)) else (0 : Int32))
set_option maxHeartbeats 4000000 in
set_option maxRecDepth 20000 in
theorem c10_isServed {sp : Sp} {K : Ly} {sz : Nat} (hK : LyOk K) (o : Nat) (a1 : Nat) (a2 : Int32) (a3 : Int32) (h : Hp) (ho : K o = some (.inl 10)) (ha1 : K a1 = some (.inl 6)) : Con sp y10_isServed prog_2_method_21_code 4 (some (.boolean)) 1 0 0 [.ref o, .ref a1, .int a2, .int a3] sz K h (some (.int (f10_isServed o a1 a2 a3 h))) sz K h := by
  obtain ⟨v, E⟩ : ∃ v, f10_isServed o a1 a2 a3 h = v := ⟨_, rfl⟩
  rw [E]
  refine Con.of (by decide) (Nat.le_of_ble_eq_true rfl) (fun Γ X _ => ?_)
  show Go Γ (0, 0) 0 [(0, .ref o), (1, .ref a1), (2, .int a2), (3, .int a3)] [] sz K h
  unfold f10_isServed at E
  refine g_aload_n (n := 1) X (by decide +kernel) 1 rfl ?_
  refine g_getI X (by decide +kernel) fl10_213 ha1 ?_
  refine g_iload_n (n := 2) X (by decide +kernel) 2 rfl ?_
  have hJ : Go Γ (0, 0) 38 [] [.int (if (h.1 a1 0) = a2 then (if (h.1 a1 1) = (h.1 (o + 16) 4) then (if (h.1 a1 2) = 0 then (1 : Int32) else (if a3 = 0 then (0 : Int32) else (1 : Int32))) else (0 : Int32)) else (0 : Int32))] sz K h := by
    subst E
    exact g_zreturn X (by decide +kernel) (by (repeat' split) <;> rfl)
  clear E
  by_cases c1 : (h.1 a1 0) = a2
  · rw [if_pos c1] at hJ
    refine g_icmp_ne_f (off := 32) (tgt := 37) X (by decide +kernel) (by decide) (fun z => z c1) ?_
    refine g_aload_n (n := 1) X (by decide +kernel) 1 rfl ?_
    refine g_getI X (by decide +kernel) fl10_274 ha1 ?_
    refine g_aload_n (n := 0) X (by decide +kernel) 0 rfl ?_
    refine g_getS X (by decide +kernel) fl10_50 ho ?_
    refine g_getI X (by decide +kernel) fl10_198 (ly hK ho fl10_50 rfl) ?_
    by_cases c2 : (h.1 a1 1) = (h.1 (o + 16) 4)
    · rw [if_pos c2] at hJ
      refine g_icmp_ne_f (off := 18) (tgt := 37) X (by decide +kernel) (by decide) (fun z => z c2) ?_
      refine g_aload_n (n := 1) X (by decide +kernel) 1 rfl ?_
      refine g_getI X (by decide +kernel) fl10_275 ha1 ?_
      by_cases c3 : (h.1 a1 2) = 0
      · rw [if_pos c3] at hJ
        refine g_if_eq_t (off := 7) (tgt := 33) X (by decide +kernel) (by decide) c3 ?_
        refine g_iconst (n := 1) (x := (1 : Int32)) X (by decide +kernel) (by decide) ?_
        refine g_goto (off := 4) (tgt := 38) X (by decide +kernel) (by decide) ?_
        refine g_sub [] rfl ?_
        exact hJ
      · rw [if_neg c3] at hJ
        refine g_if_eq_f (off := 7) (tgt := 33) X (by decide +kernel) (by decide) c3 ?_
        refine g_iload_n (n := 3) X (by decide +kernel) 3 rfl ?_
        by_cases c4 : a3 = 0
        · rw [if_pos c4] at hJ
          refine g_if_eq_t (off := 7) (tgt := 37) X (by decide +kernel) (by decide) c4 ?_
          refine g_iconst (n := 0) (x := (0 : Int32)) X (by decide +kernel) (by decide) ?_
          refine g_sub [] rfl ?_
          exact hJ
        · rw [if_neg c4] at hJ
          refine g_if_eq_f (off := 7) (tgt := 37) X (by decide +kernel) (by decide) c4 ?_
          refine g_iconst (n := 1) (x := (1 : Int32)) X (by decide +kernel) (by decide) ?_
          refine g_goto (off := 4) (tgt := 38) X (by decide +kernel) (by decide) ?_
          refine g_sub [] rfl ?_
          exact hJ
    · rw [if_neg c2] at hJ
      refine g_icmp_ne_t (off := 18) (tgt := 37) X (by decide +kernel) (by decide) c2 ?_
      refine g_iconst (n := 0) (x := (0 : Int32)) X (by decide +kernel) (by decide) ?_
      refine g_sub [] rfl ?_
      exact hJ
  · rw [if_neg c1] at hJ
    refine g_icmp_ne_t (off := 32) (tgt := 37) X (by decide +kernel) (by decide) c1 ?_
    refine g_iconst (n := 0) (x := (0 : Int32)) X (by decide +kernel) (by decide) ?_
    refine g_sub [] rfl ?_
    exact hJ
-- Course.firstServed
def f10_firstServed_L2 (K : Ly) (n : Nat) (x0 : Nat) (x1 : Int32) (x2 : Int32) (h : Hp)  : Nat → Int32 → Option (Int32)
  | 0, _ => none
  | k + 1, x3 =>
    if (h.1 x0 6) ≤ x3 then (
    some (-1 : Int32))
    else (
    gd (inb x3 360) <|
    ob (h.2.2 (x0 + 14) x3.toNatClampNeg) K 6 fun o3 =>
    if (f10_isServed x0 o3 x1 x2 h) = 0 then (
    lt (x3 + (1 : Int32)) fun x3_5 =>
    f10_firstServed_L2 K n x0 x1 x2 h  k x3_5)
    else (
    some x3))
def f10_firstServed (K : Ly) (n : Nat) (o : Nat) (a1 : Int32) (a2 : Int32) (h : Hp) : Option (Int32) :=
    f10_firstServed_L2 K n o a1 a2 h n (0 : Int32)
set_option maxHeartbeats 4000000 in
set_option maxRecDepth 20000 in
theorem w10_firstServed_L2 {Γ : CT} {sp : Sp} {K : Ly} {sz n : Nat} {v : Int32} {h : Hp}  (X : Ok Γ sp prog_2_method_20_code Rc10 4 (some (.int)) 2 (some (.int v)) sz K h) (hK : LyOk K) (x0 : Nat) (x1 : Int32) (x2 : Int32)  (px0 : K x0 = some (.inl 10))  : ∀ (k : Nat) (x3 : Int32), f10_firstServed_L2 K n x0 x1 x2 h  k x3 = some v → Go Γ (0, 0) 2 [(0, .ref x0), (1, .int x1), (2, .int x2), (3, .int x3)] [] sz K h := by
  intro k
  induction k with
  | zero => intro x3 E; cases E
  | succ k ih =>
    intro x3 E
    unfold f10_firstServed_L2 at E
    refine g_iload_n (n := 3) X (by decide +kernel) 3 rfl ?_
    refine g_aload_n (n := 0) X (by decide +kernel) 0 rfl ?_
    refine g_getI X (by decide +kernel) fl10_37 px0 ?_
    rcases it_E E with ⟨c1, E⟩ | ⟨c1, E⟩
    · refine g_icmp_ge_t (off := 26) (tgt := 33) X (by decide +kernel) (by decide) c1 ?_
      refine g_iconst (n := -1) (x := (-1 : Int32)) X (by decide +kernel) (by decide) ?_
      obtain rfl := Option.some.inj E
      exact g_ireturn X (by decide +kernel)
    · refine g_icmp_ge_f (off := 26) (tgt := 33) X (by decide +kernel) (by decide) c1 ?_
      refine g_aload_n (n := 0) X (by decide +kernel) 0 rfl ?_
      refine g_aload_n (n := 0) X (by decide +kernel) 0 rfl ?_
      refine g_getS X (by decide +kernel) fl10_33 px0 ?_
      refine g_iload_n (n := 3) X (by decide +kernel) 3 rfl ?_
      obtain ⟨c2, E⟩ := gd_E E
      obtain ⟨o3, qo3, po3, E⟩ := ob_E E
      refine g_aald (C := "AskedNames$Entry") X (by decide +kernel) (ly hK px0 fl10_33 rfl) rfl rfl c2 qo3 ?_
      refine g_iload_n (n := 1) X (by decide +kernel) 1 rfl ?_
      refine g_iload_n (n := 2) X (by decide +kernel) 2 rfl ?_
      refine g_callV1 (st := []) X [.ref o3, .int x1, .int x2] (by decide +kernel) ml10_335 px0 rfl rfl (by decide) (Nat.le_of_ble_eq_true rfl) (c10_isServed hK x0 o3 x1 x2 h px0 po3) ?_
      rcases it_E E with ⟨c4, E⟩ | ⟨c4, E⟩
      · refine g_if_eq_t (off := 5) (tgt := 27) X (by decide +kernel) (by decide) c4 ?_
        obtain ⟨x3_5, ex3_5, E⟩ := lt_E E
        refine s_iinc (i := 3) (n := 1) (y := x3_5) X (by decide +kernel) 3 rfl (by decide) ex3_5 (ls_next (by decide) (Or.inr rfl) (ls_next (by decide) (Or.inr rfl) (ls_next (by decide) (Or.inr rfl) (ls_here ls_end)))) ?_
        refine g_goto (off := -28) (tgt := 2) X (by decide +kernel) (by decide) ?_
        exact ih x3_5  E
      · refine g_if_eq_f (off := 5) (tgt := 27) X (by decide +kernel) (by decide) c4 ?_
        refine g_iload_n (n := 3) X (by decide +kernel) 3 rfl ?_
        obtain rfl := Option.some.inj E
        exact g_ireturn X (by decide +kernel)
set_option maxHeartbeats 4000000 in
set_option maxRecDepth 20000 in
theorem c10_firstServed {sp : Sp} {K : Ly} {sz n : Nat} (hK : LyOk K) (o : Nat) (a1 : Int32) (a2 : Int32) (h : Hp) (ho : K o = some (.inl 10)) {v : Int32} (E : f10_firstServed K n o a1 a2 h = some v) : Con sp y10_firstServed prog_2_method_20_code 4 (some (.int)) 2 0 0 [.ref o, .int a1, .int a2] sz K h (some (.int v)) sz K h := by
  refine Con.of (by decide) (Nat.le_of_ble_eq_true rfl) (fun Γ X _ => ?_)
  show Go Γ (0, 0) 0 [(0, .ref o), (1, .int a1), (2, .int a2)] [] sz K h
  unfold f10_firstServed at E
  refine g_iconst (n := 0) (x := (0 : Int32)) X (by decide +kernel) (by decide) ?_
  refine s_istore_n (n := 3) (i := 3) X (by decide +kernel) rfl (by decide) rfl (ls_next (by decide) (Or.inr rfl) (ls_next (by decide) (Or.inr rfl) (ls_next (by decide) (Or.inr rfl) (ls_ins ls_end)))) ?_
  exact w10_firstServed_L2 X hK o a1 a2 ho n (0 : Int32) E
-- Course.close
def f10_close_L43 (K : Ly) (n : Nat) (x0 : Nat) (x1 : Int32) (x2 : Nat)   : Nat → Int32 → Hp → Option Hp
  | 0, _, _ => none
  | k + 1, x3, h =>
    if (60 : Int32) ≤ x3 then (
    gd (inb (h.1 x2 0) 6) <|
    gd (inb (h.1 x2 0) 6) <|
    lt (sL h (x0 + 19) (h.1 x2 0).toNatClampNeg ((h.2.1 (x0 + 19) (h.1 x2 0).toNatClampNeg) ||| (h.2.1 x2 5))) fun h12 =>
    bp (f10_drop K n x0 x1 h12) fun h14 =>
    some h14)
    else (
    if (lg_cmp ((h.2.1 x2 4) &&& ((1 : Int64) <<< (x3.toInt64 &&& 63))) (0 : Int64)) = 0 then (
    lt (x3 + (1 : Int32)) fun x3_16 =>
    f10_close_L43 K n x0 x1 x2  k x3_16 h)
    else (
    bp (f10_settle K n x0 x3 h) fun h18 =>
    lt (x3 + (1 : Int32)) fun x3_19 =>
    f10_close_L43 K n x0 x1 x2  k x3_19 h18))
def f10_close_L9 (K : Ly) (n : Nat) (x0 : Nat) (x1 : Int32) (x2 : Nat)   : Nat → Int32 → Hp → Option Hp
  | 0, _, _ => none
  | k + 1, x3, h =>
    if (6 : Int32) ≤ x3 then (
    f10_close_L43 K n x0 x1 x2 n (0 : Int32) h)
    else (
    if ((h.1 x2 3) &&& ((1 : Int32) <<< (x3 &&& 31))) = 0 then (
    lt (x3 + (1 : Int32)) fun x3_5 =>
    f10_close_L9 K n x0 x1 x2  k x3_5 h)
    else (
    bp (f10_send K n x0 (h.1 x2 0) x3 h) fun h7 =>
    lt (x3 + (1 : Int32)) fun x3_8 =>
    f10_close_L9 K n x0 x1 x2  k x3_8 h7))
def f10_close (K : Ly) (n : Nat) (o : Nat) (a1 : Int32) (h : Hp) : Option Hp :=
    gd (inb a1 360) <|
    ob (h.2.2 (o + 14) a1.toNatClampNeg) K 6 fun o2 =>
    f10_close_L9 K n o a1 o2 n (0 : Int32) h
set_option maxHeartbeats 4000000 in
set_option maxRecDepth 20000 in
theorem w10_close_L43 {Γ : CT} {sp : Sp} {K : Ly} {sz n : Nat} {hf : Hp}  (X : Ok Γ sp prog_2_method_23_code Rc10 4 none 3 none sz K hf) (hK : LyOk K) (x0 : Nat) (x1 : Int32) (x2 : Nat)  (px0 : K x0 = some (.inl 10)) (px2 : K x2 = some (.inl 6))  : ∀ (k : Nat) (x3 : Int32) (h : Hp), f10_close_L43 K n x0 x1 x2  k x3 h = some hf → Go Γ (0, 0) 43 [(0, .ref x0), (1, .int x1), (2, .ref x2), (3, .int x3)] [] sz K h := by
  intro k
  induction k with
  | zero => intro x3 h E; cases E
  | succ k ih =>
    intro x3 h E
    unfold f10_close_L43 at E
    refine g_iload_n (n := 3) X (by decide +kernel) 3 rfl ?_
    refine g_bipush (n := 60) (x := (60 : Int32)) X (by decide +kernel) (by decide) ?_
    rcases it_E E with ⟨c9, E⟩ | ⟨c9, E⟩
    · refine g_icmp_ge_t (off := 27) (tgt := 73) X (by decide +kernel) (by decide) c9 ?_
      refine g_aload_n (n := 0) X (by decide +kernel) 0 rfl ?_
      refine g_getS X (by decide +kernel) fl10_61 px0 ?_
      refine g_aload_n (n := 2) X (by decide +kernel) 2 rfl ?_
      refine g_getI X (by decide +kernel) fl10_213 px2 ?_
      refine g_dup2 X (by decide +kernel) rfl rfl ?_
      obtain ⟨c10, E⟩ := gd_E E
      refine g_lald X (by decide +kernel) (ly hK px0 fl10_61 rfl) c10 ?_
      refine g_aload_n (n := 2) X (by decide +kernel) 2 rfl ?_
      refine g_getL X (by decide +kernel) fl10_229 px2 ?_
      refine g_lor X (by decide +kernel) ?_
      obtain ⟨c11, E⟩ := gd_E E
      obtain ⟨h12, eh12, E⟩ := lt_E E
      refine g_last X (by decide +kernel) (ly hK px0 fl10_61 rfl) c11 eh12 ?_
      refine g_aload_n (n := 0) X (by decide +kernel) 0 rfl ?_
      refine g_iload_n (n := 1) X (by decide +kernel) 1 rfl ?_
      obtain ⟨h14, e13, E⟩ := bp_E E
      refine g_callV0 (st := []) X [.int x1] (by decide +kernel) ml10_232 px0 rfl rfl (by decide) (Nat.le_of_ble_eq_true rfl) (c10_drop hK x0 x1 h12 px0 e13) ?_
      obtain rfl := Option.some.inj E
      exact g_return X (by decide +kernel)
    · refine g_icmp_ge_f (off := 27) (tgt := 73) X (by decide +kernel) (by decide) c9 ?_
      refine g_aload_n (n := 2) X (by decide +kernel) 2 rfl ?_
      refine g_getL X (by decide +kernel) fl10_219 px2 ?_
      refine g_lconst (n := 1) (x := (1 : Int64)) X (by decide +kernel) (by decide) ?_
      refine g_iload_n (n := 3) X (by decide +kernel) 3 rfl ?_
      refine g_lshl X (by decide +kernel) ?_
      refine g_land X (by decide +kernel) ?_
      refine g_lconst (n := 0) (x := (0 : Int64)) X (by decide +kernel) (by decide) ?_
      refine g_lcmp X (by decide +kernel) ?_
      rcases it_E E with ⟨c15, E⟩ | ⟨c15, E⟩
      · refine g_if_eq_t (off := 8) (tgt := 67) X (by decide +kernel) (by decide) c15 ?_
        obtain ⟨x3_16, ex3_16, E⟩ := lt_E E
        refine s_iinc (i := 3) (n := 1) (y := x3_16) X (by decide +kernel) 3 rfl (by decide) ex3_16 (ls_next (by decide) (Or.inr rfl) (ls_next (by decide) (Or.inr rfl) (ls_next (by decide) (Or.inr rfl) (ls_here ls_end)))) ?_
        refine g_goto (off := -27) (tgt := 43) X (by decide +kernel) (by decide) ?_
        exact ih x3_16 h  E
      · refine g_if_eq_f (off := 8) (tgt := 67) X (by decide +kernel) (by decide) c15 ?_
        refine g_aload_n (n := 0) X (by decide +kernel) 0 rfl ?_
        refine g_iload_n (n := 3) X (by decide +kernel) 3 rfl ?_
        obtain ⟨h18, e17, E⟩ := bp_E E
        refine g_callV0 (st := []) X [.int x3] (by decide +kernel) ml10_345 px0 rfl rfl (by decide) (Nat.le_of_ble_eq_true rfl) (c10_settle hK x0 x3 h px0 e17) ?_
        obtain ⟨x3_19, ex3_19, E⟩ := lt_E E
        refine s_iinc (i := 3) (n := 1) (y := x3_19) X (by decide +kernel) 3 rfl (by decide) ex3_19 (ls_next (by decide) (Or.inr rfl) (ls_next (by decide) (Or.inr rfl) (ls_next (by decide) (Or.inr rfl) (ls_here ls_end)))) ?_
        refine g_goto (off := -27) (tgt := 43) X (by decide +kernel) (by decide) ?_
        exact ih x3_19 h18  E
set_option maxHeartbeats 4000000 in
set_option maxRecDepth 20000 in
theorem w10_close_L9 {Γ : CT} {sp : Sp} {K : Ly} {sz n : Nat} {hf : Hp}  (X : Ok Γ sp prog_2_method_23_code Rc10 4 none 3 none sz K hf) (hK : LyOk K) (x0 : Nat) (x1 : Int32) (x2 : Nat)  (px0 : K x0 = some (.inl 10)) (px2 : K x2 = some (.inl 6))  : ∀ (k : Nat) (x3 : Int32) (h : Hp), f10_close_L9 K n x0 x1 x2  k x3 h = some hf → Go Γ (0, 0) 9 [(0, .ref x0), (1, .int x1), (2, .ref x2), (3, .int x3)] [] sz K h := by
  intro k
  induction k with
  | zero => intro x3 h E; cases E
  | succ k ih =>
    intro x3 h E
    unfold f10_close_L9 at E
    refine g_iload_n (n := 3) X (by decide +kernel) 3 rfl ?_
    refine g_bipush (n := 6) (x := (6 : Int32)) X (by decide +kernel) (by decide) ?_
    rcases it_E E with ⟨c3, E⟩ | ⟨c3, E⟩
    · refine g_icmp_ge_t (off := 29) (tgt := 41) X (by decide +kernel) (by decide) c3 ?_
      refine g_iconst (n := 0) (x := (0 : Int32)) X (by decide +kernel) (by decide) ?_
      refine s_istore_n (n := 3) (i := 3) X (by decide +kernel) rfl (by decide) rfl (ls_next (by decide) (Or.inr rfl) (ls_next (by decide) (Or.inr rfl) (ls_next (by decide) (Or.inr rfl) (ls_here ls_end)))) ?_
      exact w10_close_L43 X hK x0 x1 x2 px0 px2 n (0 : Int32) h E
    · refine g_icmp_ge_f (off := 29) (tgt := 41) X (by decide +kernel) (by decide) c3 ?_
      refine g_aload_n (n := 2) X (by decide +kernel) 2 rfl ?_
      refine g_getI X (by decide +kernel) fl10_276 px2 ?_
      refine g_iconst (n := 1) (x := (1 : Int32)) X (by decide +kernel) (by decide) ?_
      refine g_iload_n (n := 3) X (by decide +kernel) 3 rfl ?_
      refine g_ishl X (by decide +kernel) ?_
      refine g_iand X (by decide +kernel) ?_
      rcases it_E E with ⟨c4, E⟩ | ⟨c4, E⟩
      · refine g_if_eq_t (off := 12) (tgt := 35) X (by decide +kernel) (by decide) c4 ?_
        obtain ⟨x3_5, ex3_5, E⟩ := lt_E E
        refine s_iinc (i := 3) (n := 1) (y := x3_5) X (by decide +kernel) 3 rfl (by decide) ex3_5 (ls_next (by decide) (Or.inr rfl) (ls_next (by decide) (Or.inr rfl) (ls_next (by decide) (Or.inr rfl) (ls_here ls_end)))) ?_
        refine g_goto (off := -29) (tgt := 9) X (by decide +kernel) (by decide) ?_
        exact ih x3_5 h  E
      · refine g_if_eq_f (off := 12) (tgt := 35) X (by decide +kernel) (by decide) c4 ?_
        refine g_aload_n (n := 0) X (by decide +kernel) 0 rfl ?_
        refine g_aload_n (n := 2) X (by decide +kernel) 2 rfl ?_
        refine g_getI X (by decide +kernel) fl10_213 px2 ?_
        refine g_iload_n (n := 3) X (by decide +kernel) 3 rfl ?_
        obtain ⟨h7, e6, E⟩ := bp_E E
        refine g_callV0 (st := []) X [.int (h.1 x2 0), .int x3] (by decide +kernel) ml10_295 px0 rfl rfl (by decide) (Nat.le_of_ble_eq_true rfl) (c10_send hK x0 (h.1 x2 0) x3 h px0 e6) ?_
        obtain ⟨x3_8, ex3_8, E⟩ := lt_E E
        refine s_iinc (i := 3) (n := 1) (y := x3_8) X (by decide +kernel) 3 rfl (by decide) ex3_8 (ls_next (by decide) (Or.inr rfl) (ls_next (by decide) (Or.inr rfl) (ls_next (by decide) (Or.inr rfl) (ls_here ls_end)))) ?_
        refine g_goto (off := -29) (tgt := 9) X (by decide +kernel) (by decide) ?_
        exact ih x3_8 h7  E
set_option maxHeartbeats 4000000 in
set_option maxRecDepth 20000 in
theorem c10_close {sp : Sp} {K : Ly} {sz n : Nat} (hK : LyOk K) (o : Nat) (a1 : Int32) (h : Hp) (ho : K o = some (.inl 10)) {hf : Hp} (E : f10_close K n o a1 h = some hf) : Con sp y10_close prog_2_method_23_code 4 none 3 0 0 [.ref o, .int a1] sz K h none sz K hf := by
  refine Con.of (by decide) (Nat.le_of_ble_eq_true rfl) (fun Γ X _ => ?_)
  show Go Γ (0, 0) 0 [(0, .ref o), (1, .int a1)] [] sz K h
  unfold f10_close at E
  refine g_aload_n (n := 0) X (by decide +kernel) 0 rfl ?_
  refine g_getS X (by decide +kernel) fl10_33 ho ?_
  refine g_iload_n (n := 1) X (by decide +kernel) 1 rfl ?_
  obtain ⟨c1, E⟩ := gd_E E
  obtain ⟨o2, qo2, po2, E⟩ := ob_E E
  refine g_aald (C := "AskedNames$Entry") X (by decide +kernel) (ly hK ho fl10_33 rfl) rfl rfl c1 qo2 ?_
  refine s_astore_n (n := 2) (i := 2) X (by decide +kernel) rfl (by decide) rfl (ls_next (by decide) (Or.inr rfl) (ls_next (by decide) (Or.inr rfl) (ls_ins ls_end))) ?_
  refine g_iconst (n := 0) (x := (0 : Int32)) X (by decide +kernel) (by decide) ?_
  refine s_istore_n (n := 3) (i := 3) X (by decide +kernel) rfl (by decide) rfl (ls_next (by decide) (Or.inr rfl) (ls_next (by decide) (Or.inr rfl) (ls_next (by decide) (Or.inr rfl) (ls_ins ls_end)))) ?_
  exact w10_close_L9 X hK o a1 o2 ho po2 n (0 : Int32) h E
-- Course.takeData
def f10_takeData_L145 (K : Ly) (n : Nat) (x0 : Nat) (x1 : Int32) (x2 : Int32)   : Nat → Int32 → Int32 → Hp → Option Hp
  | 0, _, _, _ => none
  | k + 1, x4, x5, h =>
    if x5 ≤ 0 then (
    some h)
    else (
    gd (inb x4 360) <|
    ob (h.2.2 (x0 + 14) x4.toNatClampNeg) K 6 fun o25 =>
    if (f10_isServed x0 o25 x1 x2 h) = 0 then (
    lt (x4 + (1 : Int32)) fun x4_27 =>
    lt (x5 + (-1 : Int32)) fun x5_28 =>
    f10_takeData_L145 K n x0 x1 x2  k x4_27 x5_28 h)
    else (
    bp (f10_close K n x0 x4 h) fun h30 =>
    lt (x5 + (-1 : Int32)) fun x5_31 =>
    f10_takeData_L145 K n x0 x1 x2  k x4 x5_31 h30))
def f10_takeData_J101 (K : Ly) (n : Nat)  (x0 : Nat) (x1 : Int32) (x2 : Int32) (x3 : Int32) (h : Hp) : Option Hp :=
    gd (inb x1 6) <|
    ob (h.2.2 (x0 + 20) x1.toNatClampNeg) K 8 fun o15 =>
    ob (h.2.2 x0 0) K 2 fun o16 =>
    gd (inb x1 6) <|
    bp (f8_keep K n o15 (x0 + 16) (h.1 (o16 + 1) x1.toNatClampNeg) h) fun h19 =>
    bp (f7_copy K n (x0 + 17) (x0 + 16) h19) fun h21 =>
    lt ((h21.1 x0 6) - x3) fun x5_22 =>
    f10_takeData_L145 K n x0 x1 x2 n x3 x5_22 h21
def f10_takeData_J27 (K : Ly) (n : Nat)  (x0 : Nat) (x1 : Int32) (s0 : Int32) (h : Hp) : Option Hp :=
    bp (f10_firstServed K n x0 x1 s0 h) fun y4 =>
    if y4 = (-1 : Int32) then (
    lt (sI h (x0 + 22) (4 : Int32).toNatClampNeg ((h.1 (x0 + 22) (4 : Int32).toNatClampNeg) + (1 : Int32))) fun h6 =>
    some h6)
    else (
    gd (inb y4 360) <|
    ob (h.2.2 (x0 + 14) y4.toNatClampNeg) K 6 fun o8 =>
    if (h.1 o8 7) = (h.1 (x0 + 16) 1) then (
    gd (inb y4 360) <|
    ob (h.2.2 (x0 + 14) y4.toNatClampNeg) K 6 fun o11 =>
    gd (inb ((x1 * (6 : Int32)) + (h.1 (x0 + 16) 1)) 36) <|
    lt (sI h (x0 + 18) ((x1 * (6 : Int32)) + (h.1 (x0 + 16) 1)).toNatClampNeg ((h.1 x0 2) - (h.1 o11 9))) fun h13 =>
    f10_takeData_J101 K n x0 x1 s0 y4 h13)
    else (
    f10_takeData_J101 K n x0 x1 s0 y4 h))
def f10_takeData (K : Ly) (n : Nat) (o : Nat) (h : Hp) : Option Hp :=
    lt (h.1 (o + 16) 2) fun x1_1 =>
    f10_takeData_J27 K n o x1_1 (if (h.1 (o + 16) 7) < (h.1 o 2) then (0 : Int32) else (1 : Int32)) h
set_option maxHeartbeats 4000000 in
set_option maxRecDepth 20000 in
theorem w10_takeData_L145 {Γ : CT} {sp : Sp} {K : Ly} {sz n : Nat} {hf : Hp}  (X : Ok Γ sp prog_2_method_19_code Rc10 6 none 4 none sz K hf) (hK : LyOk K) (x0 : Nat) (x1 : Int32) (x2 : Int32)  (px0 : K x0 = some (.inl 10))  : ∀ (k : Nat) (x4 : Int32) (x5 : Int32) (h : Hp), f10_takeData_L145 K n x0 x1 x2  k x4 x5 h = some hf → Go Γ (0, 0) 145 [(0, .ref x0), (1, .int x1), (2, .int x2), (4, .int x4), (5, .int x5)] [] sz K h := by
  intro k
  induction k with
  | zero => intro x4 x5 h E; cases E
  | succ k ih =>
    intro x4 x5 h E
    unfold f10_takeData_L145 at E
    refine g_iload (n := 5) X (by decide +kernel) 4 rfl ?_
    rcases it_E E with ⟨c23, E⟩ | ⟨c23, E⟩
    · refine g_if_le_t (off := 37) (tgt := 184) X (by decide +kernel) (by decide) c23 ?_
      obtain rfl := Option.some.inj E
      exact g_return X (by decide +kernel)
    · refine g_if_le_f (off := 37) (tgt := 184) X (by decide +kernel) (by decide) c23 ?_
      refine g_aload_n (n := 0) X (by decide +kernel) 0 rfl ?_
      refine g_aload_n (n := 0) X (by decide +kernel) 0 rfl ?_
      refine g_getS X (by decide +kernel) fl10_33 px0 ?_
      refine g_iload (n := 4) X (by decide +kernel) 3 rfl ?_
      obtain ⟨c24, E⟩ := gd_E E
      obtain ⟨o25, qo25, po25, E⟩ := ob_E E
      refine g_aald (C := "AskedNames$Entry") X (by decide +kernel) (ly hK px0 fl10_33 rfl) rfl rfl c24 qo25 ?_
      refine g_iload_n (n := 1) X (by decide +kernel) 1 rfl ?_
      refine g_iload_n (n := 2) X (by decide +kernel) 2 rfl ?_
      refine g_callV1 (st := []) X [.ref o25, .int x1, .int x2] (by decide +kernel) ml10_335 px0 rfl rfl (by decide) (Nat.le_of_ble_eq_true rfl) (c10_isServed hK x0 o25 x1 x2 h px0 po25) ?_
      rcases it_E E with ⟨c26, E⟩ | ⟨c26, E⟩
      · refine g_if_eq_t (off := 12) (tgt := 175) X (by decide +kernel) (by decide) c26 ?_
        obtain ⟨x4_27, ex4_27, E⟩ := lt_E E
        refine s_iinc (i := 4) (n := 1) (y := x4_27) X (by decide +kernel) 3 rfl (by decide) ex4_27 (ls_next (by decide) (Or.inr rfl) (ls_next (by decide) (Or.inr rfl) (ls_next (by decide) (Or.inr rfl) (ls_here (ls_next (by decide) (Or.inr rfl) ls_end))))) ?_
        obtain ⟨x5_28, ex5_28, E⟩ := lt_E E
        refine s_iinc (i := 5) (n := -1) (y := x5_28) X (by decide +kernel) 4 rfl (by decide) (by rw [show Int32.ofInt (-1) = (-1 : Int32) from by decide]; exact ex5_28) (ls_next (by decide) (Or.inr rfl) (ls_next (by decide) (Or.inr rfl) (ls_next (by decide) (Or.inr rfl) (ls_next (by decide) (Or.inr rfl) (ls_here ls_end))))) ?_
        refine g_goto (off := -36) (tgt := 145) X (by decide +kernel) (by decide) ?_
        exact ih x4_27 x5_28 h  E
      · refine g_if_eq_f (off := 12) (tgt := 175) X (by decide +kernel) (by decide) c26 ?_
        refine g_aload_n (n := 0) X (by decide +kernel) 0 rfl ?_
        refine g_iload (n := 4) X (by decide +kernel) 3 rfl ?_
        obtain ⟨h30, e29, E⟩ := bp_E E
        refine g_callV0 (st := []) X [.int x4] (by decide +kernel) ml10_339 px0 rfl rfl (by decide) (Nat.le_of_ble_eq_true rfl) (c10_close hK x0 x4 h px0 e29) ?_
        refine g_goto (off := 6) (tgt := 178) X (by decide +kernel) (by decide) ?_
        obtain ⟨x5_31, ex5_31, E⟩ := lt_E E
        refine s_iinc (i := 5) (n := -1) (y := x5_31) X (by decide +kernel) 4 rfl (by decide) (by rw [show Int32.ofInt (-1) = (-1 : Int32) from by decide]; exact ex5_31) (ls_next (by decide) (Or.inr rfl) (ls_next (by decide) (Or.inr rfl) (ls_next (by decide) (Or.inr rfl) (ls_next (by decide) (Or.inr rfl) (ls_here ls_end))))) ?_
        refine g_goto (off := -36) (tgt := 145) X (by decide +kernel) (by decide) ?_
        exact ih x4 x5_31 h30  E
set_option maxHeartbeats 4000000 in
set_option maxRecDepth 20000 in
theorem w10_takeData_J101 {Γ : CT} {sp : Sp} {K : Ly} {sz n : Nat} {hf : Hp}   (X : Ok Γ sp prog_2_method_19_code Rc10 6 none 4 none sz K hf) (hK : LyOk K) (x0 : Nat) (x1 : Int32) (x2 : Int32) (x3 : Int32) (h : Hp)  (px0 : K x0 = some (.inl 10)) (E : f10_takeData_J101 K n x0 x1 x2 x3 h = some hf) : Go Γ (0, 0) 101 [(0, .ref x0), (1, .int x1), (2, .int x2), (3, .int x3)] [] sz K h := by
  unfold f10_takeData_J101 at E
  refine g_aload_n (n := 0) X (by decide +kernel) 0 rfl ?_
  refine g_getS X (by decide +kernel) fl10_67 px0 ?_
  refine g_iload_n (n := 1) X (by decide +kernel) 1 rfl ?_
  obtain ⟨c14, E⟩ := gd_E E
  obtain ⟨o15, qo15, po15, E⟩ := ob_E E
  refine g_aald (C := "AskedNames$Store") X (by decide +kernel) (ly hK px0 fl10_67 rfl) rfl rfl c14 qo15 ?_
  refine g_aload_n (n := 0) X (by decide +kernel) 0 rfl ?_
  refine g_getS X (by decide +kernel) fl10_50 px0 ?_
  refine g_aload_n (n := 0) X (by decide +kernel) 0 rfl ?_
  obtain ⟨o16, qo16, po16, E⟩ := ob_E E
  refine g_getR X (by decide +kernel) fl10_12 px0 qo16 ?_
  refine g_getS X (by decide +kernel) fl10_328 po16 ?_
  refine g_iload_n (n := 1) X (by decide +kernel) 1 rfl ?_
  obtain ⟨c17, E⟩ := gd_E E
  refine g_iald X (by decide +kernel) (ly hK po16 fl10_328 rfl) c17 ?_
  obtain ⟨h19, e18, E⟩ := bp_E E
  refine g_callV0 (st := []) X [.ref (x0 + 16), .int (h.1 (o16 + 1) x1.toNatClampNeg)] (by decide +kernel) ml10_331 po15 rfl rfl (by decide) (Nat.le_of_ble_eq_true rfl) (c8_keep hK o15 (x0 + 16) (h.1 (o16 + 1) x1.toNatClampNeg) h po15 (ly hK px0 fl10_50 rfl) e18) ?_
  refine g_aload_n (n := 0) X (by decide +kernel) 0 rfl ?_
  refine g_getS X (by decide +kernel) fl10_54 px0 ?_
  refine g_aload_n (n := 0) X (by decide +kernel) 0 rfl ?_
  refine g_getS X (by decide +kernel) fl10_50 px0 ?_
  obtain ⟨h21, e20, E⟩ := bp_E E
  refine g_callV0 (st := []) X [.ref (x0 + 16)] (by decide +kernel) ml10_235 (ly hK px0 fl10_54 rfl) rfl rfl (by decide) (Nat.le_of_ble_eq_true rfl) (c7_copy hK (x0 + 17) (x0 + 16) h19 (ly hK px0 fl10_54 rfl) (ly hK px0 fl10_50 rfl) e20) ?_
  refine g_iload_n (n := 3) X (by decide +kernel) 3 rfl ?_
  refine s_istore (i := 4) X (by decide +kernel) (by decide) rfl (ls_next (by decide) (Or.inr rfl) (ls_next (by decide) (Or.inr rfl) (ls_next (by decide) (Or.inr rfl) (ls_next (by decide) (Or.inr rfl) (ls_ins ls_end))))) ?_
  refine g_aload_n (n := 0) X (by decide +kernel) 0 rfl ?_
  refine g_getI X (by decide +kernel) fl10_37 px0 ?_
  refine g_iload_n (n := 3) X (by decide +kernel) 3 rfl ?_
  refine g_isub X (by decide +kernel) ?_
  obtain ⟨x5_22, ex5_22, E⟩ := lt_E E
  refine s_istore (i := 5) X (by decide +kernel) (by decide) ex5_22 (ls_next (by decide) (Or.inr rfl) (ls_next (by decide) (Or.inr rfl) (ls_next (by decide) (Or.inr rfl) (ls_next (by decide) (Or.inr rfl) (ls_next (by decide) (Or.inr rfl) (ls_ins ls_end)))))) ?_
  refine g_sub [0, 1, 2, 4, 5] rfl ?_
  exact w10_takeData_L145 X hK x0 x1 x2 px0 n x3 x5_22 h21 E
set_option maxHeartbeats 4000000 in
set_option maxRecDepth 20000 in
theorem w10_takeData_J27 {Γ : CT} {sp : Sp} {K : Ly} {sz n : Nat} {hf : Hp}   (X : Ok Γ sp prog_2_method_19_code Rc10 6 none 4 none sz K hf) (hK : LyOk K) (x0 : Nat) (x1 : Int32) (s0 : Int32) (h : Hp)  (px0 : K x0 = some (.inl 10)) (E : f10_takeData_J27 K n x0 x1 s0 h = some hf) : Go Γ (0, 0) 27 [(0, .ref x0), (1, .int x1)] [.int s0] sz K h := by
  unfold f10_takeData_J27 at E
  refine s_istore_n (n := 2) (i := 2) X (by decide +kernel) rfl (by decide) rfl (ls_next (by decide) (Or.inr rfl) (ls_next (by decide) (Or.inr rfl) (ls_ins ls_end))) ?_
  refine g_aload_n (n := 0) X (by decide +kernel) 0 rfl ?_
  refine g_iload_n (n := 1) X (by decide +kernel) 1 rfl ?_
  refine g_iload_n (n := 2) X (by decide +kernel) 2 rfl ?_
  obtain ⟨y4, e3, E⟩ := bp_E E
  refine g_callV1 (st := []) X [.int x1, .int s0] (by decide +kernel) ml10_324 px0 rfl rfl (by decide) (Nat.le_of_ble_eq_true rfl) (c10_firstServed hK x0 x1 s0 h px0 e3) ?_
  refine s_istore_n (n := 3) (i := 3) X (by decide +kernel) rfl (by decide) rfl (ls_next (by decide) (Or.inr rfl) (ls_next (by decide) (Or.inr rfl) (ls_next (by decide) (Or.inr rfl) (ls_ins ls_end)))) ?_
  refine g_iload_n (n := 3) X (by decide +kernel) 3 rfl ?_
  refine g_iconst (n := -1) (x := (-1 : Int32)) X (by decide +kernel) (by decide) ?_
  rcases it_E E with ⟨c5, E⟩ | ⟨c5, E⟩
  · refine g_icmp_ne_f (off := 14) (tgt := 51) X (by decide +kernel) (by decide) (fun z => z c5) ?_
    refine g_aload_n (n := 0) X (by decide +kernel) 0 rfl ?_
    refine g_getS X (by decide +kernel) fl10_77 px0 ?_
    refine g_iconst (n := 4) (x := (4 : Int32)) X (by decide +kernel) (by decide) ?_
    refine g_dup2 X (by decide +kernel) rfl rfl ?_
    refine g_iald X (by decide +kernel) (ly hK px0 fl10_77 rfl) (by decide) ?_
    refine g_iconst (n := 1) (x := (1 : Int32)) X (by decide +kernel) (by decide) ?_
    refine g_iadd X (by decide +kernel) ?_
    obtain ⟨h6, eh6, E⟩ := lt_E E
    refine g_iast X (by decide +kernel) (ly hK px0 fl10_77 rfl) (by decide) eh6 ?_
    obtain rfl := Option.some.inj E
    exact g_return X (by decide +kernel)
  · refine g_icmp_ne_t (off := 14) (tgt := 51) X (by decide +kernel) (by decide) c5 ?_
    refine g_aload_n (n := 0) X (by decide +kernel) 0 rfl ?_
    refine g_getS X (by decide +kernel) fl10_33 px0 ?_
    refine g_iload_n (n := 3) X (by decide +kernel) 3 rfl ?_
    obtain ⟨c7, E⟩ := gd_E E
    obtain ⟨o8, qo8, po8, E⟩ := ob_E E
    refine g_aald (C := "AskedNames$Entry") X (by decide +kernel) (ly hK px0 fl10_33 rfl) rfl rfl c7 qo8 ?_
    refine g_getI X (by decide +kernel) fl10_210 po8 ?_
    refine g_aload_n (n := 0) X (by decide +kernel) 0 rfl ?_
    refine g_getS X (by decide +kernel) fl10_50 px0 ?_
    refine g_getI X (by decide +kernel) fl10_195 (ly hK px0 fl10_50 rfl) ?_
    rcases it_E E with ⟨c9, E⟩ | ⟨c9, E⟩
    · refine g_icmp_ne_f (off := 34) (tgt := 101) X (by decide +kernel) (by decide) (fun z => z c9) ?_
      refine g_aload_n (n := 0) X (by decide +kernel) 0 rfl ?_
      refine g_getS X (by decide +kernel) fl10_57 px0 ?_
      refine g_iload_n (n := 1) X (by decide +kernel) 1 rfl ?_
      refine g_bipush (n := 6) (x := (6 : Int32)) X (by decide +kernel) (by decide) ?_
      refine g_imul X (by decide +kernel) ?_
      refine g_aload_n (n := 0) X (by decide +kernel) 0 rfl ?_
      refine g_getS X (by decide +kernel) fl10_50 px0 ?_
      refine g_getI X (by decide +kernel) fl10_195 (ly hK px0 fl10_50 rfl) ?_
      refine g_iadd X (by decide +kernel) ?_
      refine g_aload_n (n := 0) X (by decide +kernel) 0 rfl ?_
      refine g_getI X (by decide +kernel) fl10_22 px0 ?_
      refine g_aload_n (n := 0) X (by decide +kernel) 0 rfl ?_
      refine g_getS X (by decide +kernel) fl10_33 px0 ?_
      refine g_iload_n (n := 3) X (by decide +kernel) 3 rfl ?_
      obtain ⟨c10, E⟩ := gd_E E
      obtain ⟨o11, qo11, po11, E⟩ := ob_E E
      refine g_aald (C := "AskedNames$Entry") X (by decide +kernel) (ly hK px0 fl10_33 rfl) rfl rfl c10 qo11 ?_
      refine g_getI X (by decide +kernel) fl10_292 po11 ?_
      refine g_isub X (by decide +kernel) ?_
      obtain ⟨c12, E⟩ := gd_E E
      obtain ⟨h13, eh13, E⟩ := lt_E E
      refine g_iast X (by decide +kernel) (ly hK px0 fl10_57 rfl) c12 eh13 ?_
      exact w10_takeData_J101 X hK x0 x1 s0 y4 h13 px0 E
    · refine g_icmp_ne_t (off := 34) (tgt := 101) X (by decide +kernel) (by decide) c9 ?_
      exact w10_takeData_J101 X hK x0 x1 s0 y4 h px0 E
set_option maxHeartbeats 4000000 in
set_option maxRecDepth 20000 in
theorem c10_takeData {sp : Sp} {K : Ly} {sz n : Nat} (hK : LyOk K) (o : Nat) (h : Hp) (ho : K o = some (.inl 10)) {hf : Hp} (E : f10_takeData K n o h = some hf) : Con sp y10_takeData prog_2_method_19_code 6 none 4 0 0 [.ref o] sz K h none sz K hf := by
  refine Con.of (by decide) (Nat.le_of_ble_eq_true rfl) (fun Γ X _ => ?_)
  show Go Γ (0, 0) 0 [(0, .ref o)] [] sz K h
  unfold f10_takeData at E
  refine g_aload_n (n := 0) X (by decide +kernel) 0 rfl ?_
  refine g_getS X (by decide +kernel) fl10_50 ho ?_
  refine g_getI X (by decide +kernel) fl10_192 (ly hK ho fl10_50 rfl) ?_
  obtain ⟨x1_1, ex1_1, E⟩ := lt_E E
  refine s_istore_n (n := 1) (i := 1) X (by decide +kernel) rfl (by decide) ex1_1 (ls_next (by decide) (Or.inr rfl) (ls_ins ls_end)) ?_
  refine g_aload_n (n := 0) X (by decide +kernel) 0 rfl ?_
  refine g_getS X (by decide +kernel) fl10_50 ho ?_
  refine g_getI X (by decide +kernel) fl10_322 (ly hK ho fl10_50 rfl) ?_
  refine g_aload_n (n := 0) X (by decide +kernel) 0 rfl ?_
  refine g_getI X (by decide +kernel) fl10_22 ho ?_
  have hJ : Go Γ (0, 0) 27 [(0, .ref o), (1, .int x1_1)] [.int (if (h.1 (o + 16) 7) < (h.1 o 2) then (0 : Int32) else (1 : Int32))] sz K h := by
    exact w10_takeData_J27 X hK o x1_1 (if (h.1 (o + 16) 7) < (h.1 o 2) then (0 : Int32) else (1 : Int32)) h ho E
  clear E
  by_cases c2 : (h.1 (o + 16) 7) < (h.1 o 2)
  · rw [if_pos c2] at hJ
    refine g_icmp_lt_t (off := 7) (tgt := 26) X (by decide +kernel) (by decide) c2 ?_
    refine g_iconst (n := 0) (x := (0 : Int32)) X (by decide +kernel) (by decide) ?_
    exact hJ
  · rw [if_neg c2] at hJ
    refine g_icmp_lt_f (off := 7) (tgt := 26) X (by decide +kernel) (by decide) c2 ?_
    refine g_iconst (n := 1) (x := (1 : Int32)) X (by decide +kernel) (by decide) ?_
    refine g_goto (off := 4) (tgt := 27) X (by decide +kernel) (by decide) ?_
    exact hJ
-- Course.takeNack
def f10_takeNack (K : Ly) (n : Nat) (o : Nat) (h : Hp) : Option Hp :=
    bp (f10_find K n o (h.1 (o + 16) 2) (h.1 (o + 16) 4) (h.1 (o + 16) 5) h) fun y2 =>
    if y2 = (-1 : Int32) then (
    some h)
    else (
    gd (inb y2 360) <|
    ob (h.2.2 (o + 14) y2.toNatClampNeg) K 6 fun o5 =>
    if (h.1 o5 7) = (h.1 (o + 16) 1) then (
    gd (inb y2 360) <|
    ob (h.2.2 (o + 14) y2.toNatClampNeg) K 6 fun o8 =>
    bd (f10_goOn K n o o8 h) fun y11 h10 =>
    if y11 = 0 then (
    bp (f7_copy K n (o + 17) (o + 16) h10) fun h14 =>
    lt (sI h14 (o + 17) 11 ((h14.1 (o + 16) 11) + (1 : Int32))) fun h15 =>
    bp (f10_close K n o y2 h15) fun h17 =>
    some h17)
    else (
    some h10))
    else (
    some h))
set_option maxHeartbeats 4000000 in
set_option maxRecDepth 20000 in
theorem c10_takeNack {sp : Sp} {K : Ly} {sz n : Nat} (hK : LyOk K) (o : Nat) (h : Hp) (ho : K o = some (.inl 10)) {hf : Hp} (E : f10_takeNack K n o h = some hf) : Con sp y10_takeNack prog_2_method_22_code 2 none 4 0 0 [.ref o] sz K h none sz K hf := by
  refine Con.of (by decide) (Nat.le_of_ble_eq_true rfl) (fun Γ X _ => ?_)
  show Go Γ (0, 0) 0 [(0, .ref o)] [] sz K h
  unfold f10_takeNack at E
  refine g_aload_n (n := 0) X (by decide +kernel) 0 rfl ?_
  refine g_aload_n (n := 0) X (by decide +kernel) 0 rfl ?_
  refine g_getS X (by decide +kernel) fl10_50 ho ?_
  refine g_getI X (by decide +kernel) fl10_192 (ly hK ho fl10_50 rfl) ?_
  refine g_aload_n (n := 0) X (by decide +kernel) 0 rfl ?_
  refine g_getS X (by decide +kernel) fl10_50 ho ?_
  refine g_getI X (by decide +kernel) fl10_198 (ly hK ho fl10_50 rfl) ?_
  refine g_aload_n (n := 0) X (by decide +kernel) 0 rfl ?_
  refine g_getS X (by decide +kernel) fl10_50 ho ?_
  refine g_getI X (by decide +kernel) fl10_201 (ly hK ho fl10_50 rfl) ?_
  obtain ⟨y2, e1, E⟩ := bp_E E
  refine g_callV1 (st := []) X [.int (h.1 (o + 16) 2), .int (h.1 (o + 16) 4), .int (h.1 (o + 16) 5)] (by decide +kernel) ml10_239 ho rfl rfl (by decide) (Nat.le_of_ble_eq_true rfl) (c10_find hK o (h.1 (o + 16) 2) (h.1 (o + 16) 4) (h.1 (o + 16) 5) h ho e1) ?_
  refine s_istore_n (n := 1) (i := 1) X (by decide +kernel) rfl (by decide) rfl (ls_next (by decide) (Or.inr rfl) (ls_ins ls_end)) ?_
  refine g_iload_n (n := 1) X (by decide +kernel) 1 rfl ?_
  refine g_iconst (n := -1) (x := (-1 : Int32)) X (by decide +kernel) (by decide) ?_
  rcases it_E E with ⟨c3, E⟩ | ⟨c3, E⟩
  · refine g_icmp_eq_t (off := 35) (tgt := 63) X (by decide +kernel) (by decide) c3 ?_
    obtain rfl := Option.some.inj E
    exact g_return X (by decide +kernel)
  · refine g_icmp_eq_f (off := 35) (tgt := 63) X (by decide +kernel) (by decide) c3 ?_
    refine g_aload_n (n := 0) X (by decide +kernel) 0 rfl ?_
    refine g_getS X (by decide +kernel) fl10_33 ho ?_
    refine g_iload_n (n := 1) X (by decide +kernel) 1 rfl ?_
    obtain ⟨c4, E⟩ := gd_E E
    obtain ⟨o5, qo5, po5, E⟩ := ob_E E
    refine g_aald (C := "AskedNames$Entry") X (by decide +kernel) (ly hK ho fl10_33 rfl) rfl rfl c4 qo5 ?_
    refine g_getI X (by decide +kernel) fl10_210 po5 ?_
    refine g_aload_n (n := 0) X (by decide +kernel) 0 rfl ?_
    refine g_getS X (by decide +kernel) fl10_50 ho ?_
    refine g_getI X (by decide +kernel) fl10_195 (ly hK ho fl10_50 rfl) ?_
    rcases it_E E with ⟨c6, E⟩ | ⟨c6, E⟩
    · refine g_icmp_ne_f (off := 16) (tgt := 63) X (by decide +kernel) (by decide) (fun z => z c6) ?_
      refine g_aload_n (n := 0) X (by decide +kernel) 0 rfl ?_
      refine g_aload_n (n := 0) X (by decide +kernel) 0 rfl ?_
      refine g_getS X (by decide +kernel) fl10_33 ho ?_
      refine g_iload_n (n := 1) X (by decide +kernel) 1 rfl ?_
      obtain ⟨c7, E⟩ := gd_E E
      obtain ⟨o8, qo8, po8, E⟩ := ob_E E
      refine g_aald (C := "AskedNames$Entry") X (by decide +kernel) (ly hK ho fl10_33 rfl) rfl rfl c7 qo8 ?_
      obtain ⟨y11, h10, e9, E⟩ := bd_E E
      refine g_callV1 (st := []) X [.ref o8] (by decide +kernel) ml10_285 ho rfl rfl (by decide) (Nat.le_of_ble_eq_true rfl) (c10_goOn hK o o8 h ho po8 e9) ?_
      rcases it_E E with ⟨c12, E⟩ | ⟨c12, E⟩
      · refine g_if_eq_t (off := 4) (tgt := 64) X (by decide +kernel) (by decide) c12 ?_
        refine g_aload_n (n := 0) X (by decide +kernel) 0 rfl ?_
        refine g_getS X (by decide +kernel) fl10_54 ho ?_
        refine g_aload_n (n := 0) X (by decide +kernel) 0 rfl ?_
        refine g_getS X (by decide +kernel) fl10_50 ho ?_
        obtain ⟨h14, e13, E⟩ := bp_E E
        refine g_callV0 (st := []) X [.ref (o + 16)] (by decide +kernel) ml10_235 (ly hK ho fl10_54 rfl) rfl rfl (by decide) (Nat.le_of_ble_eq_true rfl) (c7_copy hK (o + 17) (o + 16) h10 (ly hK ho fl10_54 rfl) (ly hK ho fl10_50 rfl) e13) ?_
        refine g_aload_n (n := 0) X (by decide +kernel) 0 rfl ?_
        refine g_getS X (by decide +kernel) fl10_54 ho ?_
        refine g_aload_n (n := 0) X (by decide +kernel) 0 rfl ?_
        refine g_getS X (by decide +kernel) fl10_50 ho ?_
        refine g_getI X (by decide +kernel) fl10_342 (ly hK ho fl10_50 rfl) ?_
        refine g_iconst (n := 1) (x := (1 : Int32)) X (by decide +kernel) (by decide) ?_
        refine g_iadd X (by decide +kernel) ?_
        obtain ⟨h15, eh15, E⟩ := lt_E E
        refine g_putI X (by decide +kernel) fp10_342 (ly hK ho fl10_54 rfl) eh15 ?_
        refine g_aload_n (n := 0) X (by decide +kernel) 0 rfl ?_
        refine g_iload_n (n := 1) X (by decide +kernel) 1 rfl ?_
        obtain ⟨h17, e16, E⟩ := bp_E E
        refine g_callV0 (st := []) X [.int y2] (by decide +kernel) ml10_339 ho rfl rfl (by decide) (Nat.le_of_ble_eq_true rfl) (c10_close hK o y2 h15 ho e16) ?_
        obtain rfl := Option.some.inj E
        exact g_return X (by decide +kernel)
      · refine g_if_eq_f (off := 4) (tgt := 64) X (by decide +kernel) (by decide) c12 ?_
        obtain rfl := Option.some.inj E
        exact g_return X (by decide +kernel)
    · refine g_icmp_ne_t (off := 16) (tgt := 63) X (by decide +kernel) (by decide) c6 ?_
      obtain rfl := Option.some.inj E
      exact g_return X (by decide +kernel)
-- Course.passMinute
def f10_passMinute_L21 (K : Ly) (n : Nat) (x0 : Nat)   : Nat → Int32 → Int32 → Hp → Option Hp
  | 0, _, _, _ => none
  | k + 1, x1, x2, h =>
    if x2 ≤ 0 then (
    some h)
    else (
    gd (inb x1 360) <|
    ob (h.2.2 (x0 + 15) x1.toNatClampNeg) K 7 fun o7 =>
    if (h.1 o7 3) = (h.1 x0 2) then (
    bp (f10_land K n x0 x1 h) fun h10 =>
    if (h10.1 (x0 + 16) 0) = (1 : Int32) then (
    bp (f10_takeData K n x0 h10) fun h13 =>
    lt (x2 + (-1 : Int32)) fun x2_14 =>
    f10_passMinute_L21 K n x0  k x1 x2_14 h13)
    else (
    if (h10.1 (x0 + 16) 0) = (2 : Int32) then (
    bp (f10_takeNack K n x0 h10) fun h17 =>
    lt (x2 + (-1 : Int32)) fun x2_18 =>
    f10_passMinute_L21 K n x0  k x1 x2_18 h17)
    else (
    bd (f10_isMet K n x0 (h10.1 (x0 + 16) 2) (h10.1 (x0 + 16) 1) (h10.1 (x0 + 16) 4) (h10.1 (x0 + 16) 5) (h10.1 (x0 + 16) 6) h10) fun y21 h20 =>
    if y21 = 0 then (
    bp (f10_makeEntry K n x0 (h20.1 (x0 + 16) 2) (h20.1 (x0 + 16) 1) (h20.1 (x0 + 16) 4) (h20.1 (x0 + 16) 5) (h20.1 (x0 + 16) 6) h20) fun h24 =>
    lt (x2 + (-1 : Int32)) fun x2_25 =>
    f10_passMinute_L21 K n x0  k x1 x2_25 h24)
    else (
    lt (x2 + (-1 : Int32)) fun x2_26 =>
    f10_passMinute_L21 K n x0  k x1 x2_26 h20))))
    else (
    lt (x1 + (1 : Int32)) fun x1_27 =>
    lt (x2 + (-1 : Int32)) fun x2_28 =>
    f10_passMinute_L21 K n x0  k x1_27 x2_28 h))
def f10_passMinute (K : Ly) (n : Nat) (o : Nat) (h : Hp) : Option Hp :=
    lt (sI h o 2 ((h.1 o 2) + (1 : Int32))) fun h1 =>
    bp (f10_endEntries K n o h1) fun h3 =>
    lt (h3.1 o 8) fun x2_4 =>
    f10_passMinute_L21 K n o n (0 : Int32) x2_4 h3
set_option maxHeartbeats 4000000 in
set_option maxRecDepth 20000 in
theorem w10_passMinute_L21 {Γ : CT} {sp : Sp} {K : Ly} {sz n : Nat} {hf : Hp}  (X : Ok Γ sp prog_2_method_11_code Rc10 3 none 5 none sz K hf) (hK : LyOk K) (x0 : Nat)  (px0 : K x0 = some (.inl 10))  : ∀ (k : Nat) (x1 : Int32) (x2 : Int32) (h : Hp), f10_passMinute_L21 K n x0  k x1 x2 h = some hf → Go Γ (0, 0) 21 [(0, .ref x0), (1, .int x1), (2, .int x2)] [] sz K h := by
  intro k
  induction k with
  | zero => intro x1 x2 h E; cases E
  | succ k ih =>
    intro x1 x2 h E
    unfold f10_passMinute_L21 at E
    refine g_iload_n (n := 2) X (by decide +kernel) 2 rfl ?_
    rcases it_E E with ⟨c5, E⟩ | ⟨c5, E⟩
    · refine g_if_le_t (off := 153) (tgt := 175) X (by decide +kernel) (by decide) c5 ?_
      obtain rfl := Option.some.inj E
      exact g_return X (by decide +kernel)
    · refine g_if_le_f (off := 153) (tgt := 175) X (by decide +kernel) (by decide) c5 ?_
      refine g_aload_n (n := 0) X (by decide +kernel) 0 rfl ?_
      refine g_getS X (by decide +kernel) fl10_42 px0 ?_
      refine g_iload_n (n := 1) X (by decide +kernel) 1 rfl ?_
      obtain ⟨c6, E⟩ := gd_E E
      obtain ⟨o7, qo7, po7, E⟩ := ob_E E
      refine g_aald (C := "AskedNames$Message") X (by decide +kernel) (ly hK px0 fl10_42 rfl) rfl rfl c6 qo7 ?_
      refine g_getI X (by decide +kernel) fl10_178 po7 ?_
      refine g_aload_n (n := 0) X (by decide +kernel) 0 rfl ?_
      refine g_getI X (by decide +kernel) fl10_22 px0 ?_
      rcases it_E E with ⟨c8, E⟩ | ⟨c8, E⟩
      · refine g_icmp_eq_t (off := 9) (tgt := 47) X (by decide +kernel) (by decide) c8 ?_
        refine g_aload_n (n := 0) X (by decide +kernel) 0 rfl ?_
        refine g_iload_n (n := 1) X (by decide +kernel) 1 rfl ?_
        obtain ⟨h10, e9, E⟩ := bp_E E
        refine g_callV0 (st := []) X [.int x1] (by decide +kernel) ml10_181 px0 rfl rfl (by decide) (Nat.le_of_ble_eq_true rfl) (c10_land hK x0 x1 h px0 e9) ?_
        refine g_aload_n (n := 0) X (by decide +kernel) 0 rfl ?_
        refine g_getS X (by decide +kernel) fl10_50 px0 ?_
        refine g_getI X (by decide +kernel) fl10_184 (ly hK px0 fl10_50 rfl) ?_
        refine g_iconst (n := 1) (x := (1 : Int32)) X (by decide +kernel) (by decide) ?_
        rcases it_E E with ⟨c11, E⟩ | ⟨c11, E⟩
        · refine g_icmp_ne_f (off := 10) (tgt := 70) X (by decide +kernel) (by decide) (fun z => z c11) ?_
          refine g_aload_n (n := 0) X (by decide +kernel) 0 rfl ?_
          obtain ⟨h13, e12, E⟩ := bp_E E
          refine g_callV0 (st := []) X [] (by decide +kernel) ml10_186 px0 rfl rfl (by decide) (Nat.le_of_ble_eq_true rfl) (c10_takeData hK x0 h10 px0 e12) ?_
          refine g_goto (off := 102) (tgt := 169) X (by decide +kernel) (by decide) ?_
          obtain ⟨x2_14, ex2_14, E⟩ := lt_E E
          refine s_iinc (i := 2) (n := -1) (y := x2_14) X (by decide +kernel) 2 rfl (by decide) (by rw [show Int32.ofInt (-1) = (-1 : Int32) from by decide]; exact ex2_14) (ls_next (by decide) (Or.inr rfl) (ls_next (by decide) (Or.inr rfl) (ls_here ls_end))) ?_
          refine g_goto (off := -151) (tgt := 21) X (by decide +kernel) (by decide) ?_
          exact ih x1 x2_14 h13  E
        · refine g_icmp_ne_t (off := 10) (tgt := 70) X (by decide +kernel) (by decide) c11 ?_
          refine g_aload_n (n := 0) X (by decide +kernel) 0 rfl ?_
          refine g_getS X (by decide +kernel) fl10_50 px0 ?_
          refine g_getI X (by decide +kernel) fl10_184 (ly hK px0 fl10_50 rfl) ?_
          refine g_iconst (n := 2) (x := (2 : Int32)) X (by decide +kernel) (by decide) ?_
          rcases it_E E with ⟨c15, E⟩ | ⟨c15, E⟩
          · refine g_icmp_ne_f (off := 10) (tgt := 88) X (by decide +kernel) (by decide) (fun z => z c15) ?_
            refine g_aload_n (n := 0) X (by decide +kernel) 0 rfl ?_
            obtain ⟨h17, e16, E⟩ := bp_E E
            refine g_callV0 (st := []) X [] (by decide +kernel) ml10_189 px0 rfl rfl (by decide) (Nat.le_of_ble_eq_true rfl) (c10_takeNack hK x0 h10 px0 e16) ?_
            refine g_goto (off := 84) (tgt := 169) X (by decide +kernel) (by decide) ?_
            obtain ⟨x2_18, ex2_18, E⟩ := lt_E E
            refine s_iinc (i := 2) (n := -1) (y := x2_18) X (by decide +kernel) 2 rfl (by decide) (by rw [show Int32.ofInt (-1) = (-1 : Int32) from by decide]; exact ex2_18) (ls_next (by decide) (Or.inr rfl) (ls_next (by decide) (Or.inr rfl) (ls_here ls_end))) ?_
            refine g_goto (off := -151) (tgt := 21) X (by decide +kernel) (by decide) ?_
            exact ih x1 x2_18 h17  E
          · refine g_icmp_ne_t (off := 10) (tgt := 88) X (by decide +kernel) (by decide) c15 ?_
            refine g_aload_n (n := 0) X (by decide +kernel) 0 rfl ?_
            refine g_aload_n (n := 0) X (by decide +kernel) 0 rfl ?_
            refine g_getS X (by decide +kernel) fl10_50 px0 ?_
            refine g_getI X (by decide +kernel) fl10_192 (ly hK px0 fl10_50 rfl) ?_
            refine g_aload_n (n := 0) X (by decide +kernel) 0 rfl ?_
            refine g_getS X (by decide +kernel) fl10_50 px0 ?_
            refine g_getI X (by decide +kernel) fl10_195 (ly hK px0 fl10_50 rfl) ?_
            refine g_aload_n (n := 0) X (by decide +kernel) 0 rfl ?_
            refine g_getS X (by decide +kernel) fl10_50 px0 ?_
            refine g_getI X (by decide +kernel) fl10_198 (ly hK px0 fl10_50 rfl) ?_
            refine g_aload_n (n := 0) X (by decide +kernel) 0 rfl ?_
            refine g_getS X (by decide +kernel) fl10_50 px0 ?_
            refine g_getI X (by decide +kernel) fl10_201 (ly hK px0 fl10_50 rfl) ?_
            refine g_aload_n (n := 0) X (by decide +kernel) 0 rfl ?_
            refine g_getS X (by decide +kernel) fl10_50 px0 ?_
            refine g_getI X (by decide +kernel) fl10_204 (ly hK px0 fl10_50 rfl) ?_
            obtain ⟨y21, h20, e19, E⟩ := bd_E E
            refine g_callV1 (st := []) X [.int (h10.1 (x0 + 16) 2), .int (h10.1 (x0 + 16) 1), .int (h10.1 (x0 + 16) 4), .int (h10.1 (x0 + 16) 5), .int (h10.1 (x0 + 16) 6)] (by decide +kernel) ml10_167 px0 rfl rfl (by decide) (Nat.le_of_ble_eq_true rfl) (c10_isMet hK x0 (h10.1 (x0 + 16) 2) (h10.1 (x0 + 16) 1) (h10.1 (x0 + 16) 4) (h10.1 (x0 + 16) 5) (h10.1 (x0 + 16) 6) h10 px0 e19) ?_
            rcases it_E E with ⟨c22, E⟩ | ⟨c22, E⟩
            · refine g_if_ne_f (off := 42) (tgt := 169) X (by decide +kernel) (by decide) (fun z => z c22) ?_
              refine g_aload_n (n := 0) X (by decide +kernel) 0 rfl ?_
              refine g_aload_n (n := 0) X (by decide +kernel) 0 rfl ?_
              refine g_getS X (by decide +kernel) fl10_50 px0 ?_
              refine g_getI X (by decide +kernel) fl10_192 (ly hK px0 fl10_50 rfl) ?_
              refine g_aload_n (n := 0) X (by decide +kernel) 0 rfl ?_
              refine g_getS X (by decide +kernel) fl10_50 px0 ?_
              refine g_getI X (by decide +kernel) fl10_195 (ly hK px0 fl10_50 rfl) ?_
              refine g_aload_n (n := 0) X (by decide +kernel) 0 rfl ?_
              refine g_getS X (by decide +kernel) fl10_50 px0 ?_
              refine g_getI X (by decide +kernel) fl10_198 (ly hK px0 fl10_50 rfl) ?_
              refine g_aload_n (n := 0) X (by decide +kernel) 0 rfl ?_
              refine g_getS X (by decide +kernel) fl10_50 px0 ?_
              refine g_getI X (by decide +kernel) fl10_201 (ly hK px0 fl10_50 rfl) ?_
              refine g_aload_n (n := 0) X (by decide +kernel) 0 rfl ?_
              refine g_getS X (by decide +kernel) fl10_50 px0 ?_
              refine g_getI X (by decide +kernel) fl10_204 (ly hK px0 fl10_50 rfl) ?_
              obtain ⟨h24, e23, E⟩ := bp_E E
              refine g_callV0 (st := []) X [.int (h20.1 (x0 + 16) 2), .int (h20.1 (x0 + 16) 1), .int (h20.1 (x0 + 16) 4), .int (h20.1 (x0 + 16) 5), .int (h20.1 (x0 + 16) 6)] (by decide +kernel) ml10_171 px0 rfl rfl (by decide) (Nat.le_of_ble_eq_true rfl) (c10_makeEntry hK x0 (h20.1 (x0 + 16) 2) (h20.1 (x0 + 16) 1) (h20.1 (x0 + 16) 4) (h20.1 (x0 + 16) 5) (h20.1 (x0 + 16) 6) h20 px0 e23) ?_
              obtain ⟨x2_25, ex2_25, E⟩ := lt_E E
              refine s_iinc (i := 2) (n := -1) (y := x2_25) X (by decide +kernel) 2 rfl (by decide) (by rw [show Int32.ofInt (-1) = (-1 : Int32) from by decide]; exact ex2_25) (ls_next (by decide) (Or.inr rfl) (ls_next (by decide) (Or.inr rfl) (ls_here ls_end))) ?_
              refine g_goto (off := -151) (tgt := 21) X (by decide +kernel) (by decide) ?_
              exact ih x1 x2_25 h24  E
            · refine g_if_ne_t (off := 42) (tgt := 169) X (by decide +kernel) (by decide) c22 ?_
              obtain ⟨x2_26, ex2_26, E⟩ := lt_E E
              refine s_iinc (i := 2) (n := -1) (y := x2_26) X (by decide +kernel) 2 rfl (by decide) (by rw [show Int32.ofInt (-1) = (-1 : Int32) from by decide]; exact ex2_26) (ls_next (by decide) (Or.inr rfl) (ls_next (by decide) (Or.inr rfl) (ls_here ls_end))) ?_
              refine g_goto (off := -151) (tgt := 21) X (by decide +kernel) (by decide) ?_
              exact ih x1 x2_26 h20  E
      · refine g_icmp_eq_f (off := 9) (tgt := 47) X (by decide +kernel) (by decide) c8 ?_
        obtain ⟨x1_27, ex1_27, E⟩ := lt_E E
        refine s_iinc (i := 1) (n := 1) (y := x1_27) X (by decide +kernel) 1 rfl (by decide) ex1_27 (ls_next (by decide) (Or.inr rfl) (ls_here (ls_next (by decide) (Or.inr rfl) ls_end))) ?_
        refine g_goto (off := 125) (tgt := 169) X (by decide +kernel) (by decide) ?_
        obtain ⟨x2_28, ex2_28, E⟩ := lt_E E
        refine s_iinc (i := 2) (n := -1) (y := x2_28) X (by decide +kernel) 2 rfl (by decide) (by rw [show Int32.ofInt (-1) = (-1 : Int32) from by decide]; exact ex2_28) (ls_next (by decide) (Or.inr rfl) (ls_next (by decide) (Or.inr rfl) (ls_here ls_end))) ?_
        refine g_goto (off := -151) (tgt := 21) X (by decide +kernel) (by decide) ?_
        exact ih x1_27 x2_28 h  E
set_option maxHeartbeats 4000000 in
set_option maxRecDepth 20000 in
theorem c10_passMinute {sp : Sp} {K : Ly} {sz n : Nat} (hK : LyOk K) (o : Nat) (h : Hp) (ho : K o = some (.inl 10)) {hf : Hp} (E : f10_passMinute K n o h = some hf) : Con sp y10_passMinute prog_2_method_11_code 3 none 5 0 0 [.ref o] sz K h none sz K hf := by
  refine Con.of (by decide) (Nat.le_of_ble_eq_true rfl) (fun Γ X _ => ?_)
  show Go Γ (0, 0) 0 [(0, .ref o)] [] sz K h
  unfold f10_passMinute at E
  refine g_aload_n (n := 0) X (by decide +kernel) 0 rfl ?_
  refine g_dup X (by decide +kernel) rfl ?_
  refine g_getI X (by decide +kernel) fl10_22 ho ?_
  refine g_iconst (n := 1) (x := (1 : Int32)) X (by decide +kernel) (by decide) ?_
  refine g_iadd X (by decide +kernel) ?_
  obtain ⟨h1, eh1, E⟩ := lt_E E
  refine g_putI X (by decide +kernel) fp10_22 ho eh1 ?_
  refine g_aload_n (n := 0) X (by decide +kernel) 0 rfl ?_
  obtain ⟨h3, e2, E⟩ := bp_E E
  refine g_callV0 (st := []) X [] (by decide +kernel) ml10_175 ho rfl rfl (by decide) (Nat.le_of_ble_eq_true rfl) (c10_endEntries hK o h1 ho e2) ?_
  refine g_iconst (n := 0) (x := (0 : Int32)) X (by decide +kernel) (by decide) ?_
  refine s_istore_n (n := 1) (i := 1) X (by decide +kernel) rfl (by decide) rfl (ls_next (by decide) (Or.inr rfl) (ls_ins ls_end)) ?_
  refine g_aload_n (n := 0) X (by decide +kernel) 0 rfl ?_
  refine g_getI X (by decide +kernel) fl10_46 ho ?_
  obtain ⟨x2_4, ex2_4, E⟩ := lt_E E
  refine s_istore_n (n := 2) (i := 2) X (by decide +kernel) rfl (by decide) ex2_4 (ls_next (by decide) (Or.inr rfl) (ls_next (by decide) (Or.inr rfl) (ls_ins ls_end))) ?_
  exact w10_passMinute_L21 X hK o ho n (0 : Int32) x2_4 h3 E
-- Course.perform
def f10_perform_J63 (K : Ly) (n : Nat)  (s0 : Nat) (s1 : Int32) (s2 : Int32) (s3 : Int32) (s4 : Int32) (h : Hp) : Option (Int32 × Hp) :=
    bp (f10_ask K n s0 s1 s2 s3 s4 h) fun h28 =>
    some ((1 : Int32), h28)
def f10_perform_J34 (K : Ly) (n : Nat)  (x0 : Nat) (x2 : Int32) (x3 : Int32) (x4 : Int32) (x5 : Int32) (h : Hp) : Option (Int32 × Hp) :=
    ob (h.2.2 x0 0) K 2 fun o16 =>
    if (f2_hasNode o16 x3 h) = 0 then (
    some ((0 : Int32), h))
    else (
    f10_perform_J63 K n x0 x2 x3 x4 (if x5 = (1 : Int32) then (1 : Int32) else (0 : Int32)) h)
def f10_perform_J108 (K : Ly) (n : Nat)  (x6 : Int32) (h : Hp) : Option (Int32 × Hp) :=
    some ((if (99 : Int32) < x6 then (0 : Int32) else (1 : Int32)), h)
def f10_perform_L85 (K : Ly) (n : Nat) (x0 : Nat) (x3 : Int32) (x6 : Int32)   : Nat → Int32 → Hp → Option (Int32 × Hp)
  | 0, _, _ => none
  | k + 1, x7, h =>
    if x3 ≤ x7 then (
    f10_perform_J108 K n x6 h)
    else (
    if (99 : Int32) < x6 then (
    f10_perform_J108 K n x6 h)
    else (
    bp (f10_passMinute K n x0 h) fun h22 =>
    lt (x7 + (1 : Int32)) fun x7_23 =>
    f10_perform_L85 K n x0 x3 x6  k x7_23 h22))
def f10_perform_J186 (K : Ly) (n : Nat)  (x0 : Nat) (x6 : Int32) (s0 : Int32) (s1 : Int32) (h : Hp) : Option (Int32 × Hp) :=
    if s0 = s1 then (
    lt (sI h x0 3 ((h.1 x0 3) ^^^ ((1 : Int32) <<< (x6 &&& 31)))) fun h31 =>
    some ((1 : Int32), h31))
    else (
    some ((0 : Int32), h))
def f10_perform_J156 (K : Ly) (n : Nat)  (x0 : Nat) (x5 : Int32) (x6 : Int32) (s0 : Int32) (h : Hp) : Option (Int32 × Hp) :=
    if x6 = (-1 : Int32) then (
    some ((0 : Int32), h))
    else (
    if x6 = (h.1 x0 1) then (
    some ((0 : Int32), h))
    else (
    f10_perform_J186 K n x0 x6 s0 (if x5 = (4 : Int32) then (1 : Int32) else (0 : Int32)) h))
def f10_perform (K : Ly) (n : Nat) (o : Nat) (a1 : Nat) (a2 : Int32) (h : Hp) : Option (Int32 × Hp) :=
    gd (inb a2 40) <|
    lt (h.1 (a1 + 2) a2.toNatClampNeg) fun x3_2 =>
    gd (inb a2 40) <|
    lt (h.1 (a1 + 3) a2.toNatClampNeg) fun x4_4 =>
    gd (inb a2 40) <|
    lt (h.1 (a1 + 1) a2.toNatClampNeg) fun x5_6 =>
    if x5_6 = 0 then (
    f10_perform_J34 K n o a2 x3_2 x4_4 x5_6 h)
    else (
    if x5_6 = (1 : Int32) then (
    f10_perform_J34 K n o a2 x3_2 x4_4 x5_6 h)
    else (
    if x5_6 = (2 : Int32) then (
    lt ((h.1 o 2) + x3_2) fun x6_10 =>
    f10_perform_L85 K n o x3_2 x6_10 n (0 : Int32) h)
    else (
    ob (h.2.2 o 0) K 2 fun o11 =>
    bp (f2_linkBetween K n o11 x3_2 x4_4 h) fun y13 =>
    f10_perform_J156 K n o x5_6 y13 (if y13 = (-1 : Int32) then (0 : Int32) else (if ((h.1 o 3) &&& ((1 : Int32) <<< (y13 &&& 31))) = 0 then (0 : Int32) else (1 : Int32))) h)))
set_option maxHeartbeats 4000000 in
set_option maxRecDepth 20000 in
theorem w10_perform_J63 {Γ : CT} {sp : Sp} {K : Ly} {sz n : Nat} {v : Int32} {hf : Hp}   (X : Ok Γ sp prog_2_method_4_code Rc10 8 (some (.boolean)) 6 (some (.int v)) sz K hf) (hK : LyOk K) (s0 : Nat) (s1 : Int32) (s2 : Int32) (s3 : Int32) (s4 : Int32) (h : Hp)  (ps0 : K s0 = some (.inl 10)) (E : f10_perform_J63 K n s0 s1 s2 s3 s4 h = some (v, hf)) : Go Γ (0, 0) 63 [] [.int s4, .int s3, .int s2, .int s1, .ref s0] sz K h := by
  unfold f10_perform_J63 at E
  obtain ⟨h28, e27, E⟩ := bp_E E
  refine g_callV0 (st := []) X [.int s1, .int s2, .int s3, .int s4] (by decide +kernel) ml10_130 ps0 rfl rfl (by decide) (Nat.le_of_ble_eq_true rfl) (c10_ask hK s0 s1 s2 s3 s4 h ps0 e27) ?_
  refine g_iconst (n := 1) (x := (1 : Int32)) X (by decide +kernel) (by decide) ?_
  obtain ⟨rfl, rfl⟩ := rt_E E
  exact g_zreturn X (by decide +kernel) rfl
set_option maxHeartbeats 4000000 in
set_option maxRecDepth 20000 in
theorem w10_perform_J34 {Γ : CT} {sp : Sp} {K : Ly} {sz n : Nat} {v : Int32} {hf : Hp}   (X : Ok Γ sp prog_2_method_4_code Rc10 8 (some (.boolean)) 6 (some (.int v)) sz K hf) (hK : LyOk K) (x0 : Nat) (x2 : Int32) (x3 : Int32) (x4 : Int32) (x5 : Int32) (h : Hp)  (px0 : K x0 = some (.inl 10)) (E : f10_perform_J34 K n x0 x2 x3 x4 x5 h = some (v, hf)) : Go Γ (0, 0) 34 [(0, .ref x0), (2, .int x2), (3, .int x3), (4, .int x4), (5, .int x5)] [] sz K h := by
  unfold f10_perform_J34 at E
  refine g_aload_n (n := 0) X (by decide +kernel) 0 rfl ?_
  obtain ⟨o16, qo16, po16, E⟩ := ob_E E
  refine g_getR X (by decide +kernel) fl10_12 px0 qo16 ?_
  refine g_iload_n (n := 3) X (by decide +kernel) 2 rfl ?_
  refine g_callV1 (st := []) X [.int x3] (by decide +kernel) ml10_126 po16 rfl rfl (by decide) (Nat.le_of_ble_eq_true rfl) (c2_hasNode hK o16 x3 h po16) ?_
  rcases it_E E with ⟨c17, E⟩ | ⟨c17, E⟩
  · refine g_if_ne_f (off := 5) (tgt := 47) X (by decide +kernel) (by decide) (fun z => z c17) ?_
    refine g_iconst (n := 0) (x := (0 : Int32)) X (by decide +kernel) (by decide) ?_
    obtain ⟨rfl, rfl⟩ := rt_E E
    exact g_zreturn X (by decide +kernel) rfl
  · refine g_if_ne_t (off := 5) (tgt := 47) X (by decide +kernel) (by decide) c17 ?_
    refine g_aload_n (n := 0) X (by decide +kernel) 0 rfl ?_
    refine g_iload_n (n := 2) X (by decide +kernel) 1 rfl ?_
    refine g_iload_n (n := 3) X (by decide +kernel) 2 rfl ?_
    refine g_iload (n := 4) X (by decide +kernel) 3 rfl ?_
    refine g_iload (n := 5) X (by decide +kernel) 4 rfl ?_
    refine g_iconst (n := 1) (x := (1 : Int32)) X (by decide +kernel) (by decide) ?_
    have hJ : Go Γ (0, 0) 63 [] [.int (if x5 = (1 : Int32) then (1 : Int32) else (0 : Int32)), .int x4, .int x3, .int x2, .ref x0] sz K h := by
      exact w10_perform_J63 X hK x0 x2 x3 x4 (if x5 = (1 : Int32) then (1 : Int32) else (0 : Int32)) h px0 E
    clear E
    by_cases c18 : x5 = (1 : Int32)
    · rw [if_pos c18] at hJ
      refine g_icmp_ne_f (off := 7) (tgt := 62) X (by decide +kernel) (by decide) (fun z => z c18) ?_
      refine g_iconst (n := 1) (x := (1 : Int32)) X (by decide +kernel) (by decide) ?_
      refine g_goto (off := 4) (tgt := 63) X (by decide +kernel) (by decide) ?_
      refine g_sub [] rfl ?_
      exact hJ
    · rw [if_neg c18] at hJ
      refine g_icmp_ne_t (off := 7) (tgt := 62) X (by decide +kernel) (by decide) c18 ?_
      refine g_iconst (n := 0) (x := (0 : Int32)) X (by decide +kernel) (by decide) ?_
      refine g_sub [] rfl ?_
      exact hJ
set_option maxHeartbeats 4000000 in
set_option maxRecDepth 20000 in
theorem w10_perform_J108 {Γ : CT} {sp : Sp} {K : Ly} {sz n : Nat} {v : Int32} {hf : Hp}   (X : Ok Γ sp prog_2_method_4_code Rc10 8 (some (.boolean)) 6 (some (.int v)) sz K hf) (hK : LyOk K) (x6 : Int32) (h : Hp)   (E : f10_perform_J108 K n x6 h = some (v, hf)) : Go Γ (0, 0) 108 [(6, .int x6)] [] sz K h := by
  unfold f10_perform_J108 at E
  refine g_iload (n := 6) X (by decide +kernel) 0 rfl ?_
  refine g_bipush (n := 99) (x := (99 : Int32)) X (by decide +kernel) (by decide) ?_
  have hJ : Go Γ (0, 0) 120 [] [.int (if (99 : Int32) < x6 then (0 : Int32) else (1 : Int32))] sz K h := by
    obtain ⟨rfl, rfl⟩ := rt_E E
    exact g_zreturn X (by decide +kernel) (by (repeat' split) <;> rfl)
  clear E
  by_cases c29 : (99 : Int32) < x6
  · rw [if_pos c29] at hJ
    refine g_icmp_gt_t (off := 7) (tgt := 119) X (by decide +kernel) (by decide) c29 ?_
    refine g_iconst (n := 0) (x := (0 : Int32)) X (by decide +kernel) (by decide) ?_
    refine g_sub [] rfl ?_
    exact hJ
  · rw [if_neg c29] at hJ
    refine g_icmp_gt_f (off := 7) (tgt := 119) X (by decide +kernel) (by decide) c29 ?_
    refine g_iconst (n := 1) (x := (1 : Int32)) X (by decide +kernel) (by decide) ?_
    refine g_goto (off := 4) (tgt := 120) X (by decide +kernel) (by decide) ?_
    refine g_sub [] rfl ?_
    exact hJ
set_option maxHeartbeats 4000000 in
set_option maxRecDepth 20000 in
theorem w10_perform_L85 {Γ : CT} {sp : Sp} {K : Ly} {sz n : Nat} {v : Int32} {hf : Hp}  (X : Ok Γ sp prog_2_method_4_code Rc10 8 (some (.boolean)) 6 (some (.int v)) sz K hf) (hK : LyOk K) (x0 : Nat) (x3 : Int32) (x6 : Int32)  (px0 : K x0 = some (.inl 10))  : ∀ (k : Nat) (x7 : Int32) (h : Hp), f10_perform_L85 K n x0 x3 x6  k x7 h = some (v, hf) → Go Γ (0, 0) 85 [(0, .ref x0), (3, .int x3), (6, .int x6), (7, .int x7)] [] sz K h := by
  intro k
  induction k with
  | zero => intro x7 h E; cases E
  | succ k ih =>
    intro x7 h E
    unfold f10_perform_L85 at E
    refine g_iload (n := 7) X (by decide +kernel) 3 rfl ?_
    refine g_iload_n (n := 3) X (by decide +kernel) 1 rfl ?_
    rcases it_E E with ⟨c19, E⟩ | ⟨c19, E⟩
    · refine g_icmp_ge_t (off := 20) (tgt := 108) X (by decide +kernel) (by decide) c19 ?_
      refine g_sub [2] rfl ?_
      exact w10_perform_J108 X hK x6 h E
    · refine g_icmp_ge_f (off := 20) (tgt := 108) X (by decide +kernel) (by decide) c19 ?_
      refine g_iload (n := 6) X (by decide +kernel) 2 rfl ?_
      refine g_bipush (n := 99) (x := (99 : Int32)) X (by decide +kernel) (by decide) ?_
      rcases it_E E with ⟨c20, E⟩ | ⟨c20, E⟩
      · refine g_icmp_gt_t (off := 13) (tgt := 108) X (by decide +kernel) (by decide) c20 ?_
        refine g_sub [2] rfl ?_
        exact w10_perform_J108 X hK x6 h E
      · refine g_icmp_gt_f (off := 13) (tgt := 108) X (by decide +kernel) (by decide) c20 ?_
        refine g_aload_n (n := 0) X (by decide +kernel) 0 rfl ?_
        obtain ⟨h22, e21, E⟩ := bp_E E
        refine g_callV0 (st := []) X [] (by decide +kernel) ml10_134 px0 rfl rfl (by decide) (Nat.le_of_ble_eq_true rfl) (c10_passMinute hK x0 h px0 e21) ?_
        obtain ⟨x7_23, ex7_23, E⟩ := lt_E E
        refine s_iinc (i := 7) (n := 1) (y := x7_23) X (by decide +kernel) 3 rfl (by decide) ex7_23 (ls_next (by decide) (Or.inr rfl) (ls_next (by decide) (Or.inr rfl) (ls_next (by decide) (Or.inr rfl) (ls_here ls_end)))) ?_
        refine g_goto (off := -20) (tgt := 85) X (by decide +kernel) (by decide) ?_
        exact ih x7_23 h22  E
set_option maxHeartbeats 4000000 in
set_option maxRecDepth 20000 in
theorem w10_perform_J186 {Γ : CT} {sp : Sp} {K : Ly} {sz n : Nat} {v : Int32} {hf : Hp}   (X : Ok Γ sp prog_2_method_4_code Rc10 8 (some (.boolean)) 6 (some (.int v)) sz K hf) (hK : LyOk K) (x0 : Nat) (x6 : Int32) (s0 : Int32) (s1 : Int32) (h : Hp)  (px0 : K x0 = some (.inl 10)) (E : f10_perform_J186 K n x0 x6 s0 s1 h = some (v, hf)) : Go Γ (0, 0) 186 [(0, .ref x0), (6, .int x6)] [.int s1, .int s0] sz K h := by
  unfold f10_perform_J186 at E
  rcases it_E E with ⟨c30, E⟩ | ⟨c30, E⟩
  · refine g_icmp_eq_t (off := 5) (tgt := 191) X (by decide +kernel) (by decide) c30 ?_
    refine g_aload_n (n := 0) X (by decide +kernel) 0 rfl ?_
    refine g_dup X (by decide +kernel) rfl ?_
    refine g_getI X (by decide +kernel) fl10_25 px0 ?_
    refine g_iconst (n := 1) (x := (1 : Int32)) X (by decide +kernel) (by decide) ?_
    refine g_iload (n := 6) X (by decide +kernel) 1 rfl ?_
    refine g_ishl X (by decide +kernel) ?_
    refine g_ixor X (by decide +kernel) ?_
    obtain ⟨h31, eh31, E⟩ := lt_E E
    refine g_putI X (by decide +kernel) fp10_25 px0 eh31 ?_
    refine g_iconst (n := 1) (x := (1 : Int32)) X (by decide +kernel) (by decide) ?_
    obtain ⟨rfl, rfl⟩ := rt_E E
    exact g_zreturn X (by decide +kernel) rfl
  · refine g_icmp_eq_f (off := 5) (tgt := 191) X (by decide +kernel) (by decide) c30 ?_
    refine g_iconst (n := 0) (x := (0 : Int32)) X (by decide +kernel) (by decide) ?_
    obtain ⟨rfl, rfl⟩ := rt_E E
    exact g_zreturn X (by decide +kernel) rfl
set_option maxHeartbeats 4000000 in
set_option maxRecDepth 20000 in
theorem w10_perform_J156 {Γ : CT} {sp : Sp} {K : Ly} {sz n : Nat} {v : Int32} {hf : Hp}   (X : Ok Γ sp prog_2_method_4_code Rc10 8 (some (.boolean)) 6 (some (.int v)) sz K hf) (hK : LyOk K) (x0 : Nat) (x5 : Int32) (x6 : Int32) (s0 : Int32) (h : Hp)  (px0 : K x0 = some (.inl 10)) (E : f10_perform_J156 K n x0 x5 x6 s0 h = some (v, hf)) : Go Γ (0, 0) 156 [(0, .ref x0), (5, .int x5), (6, .int x6)] [.int s0] sz K h := by
  unfold f10_perform_J156 at E
  refine s_istore (i := 7) X (by decide +kernel) (by decide) rfl (ls_next (by decide) (Or.inr rfl) (ls_next (by decide) (Or.inr rfl) (ls_next (by decide) (Or.inr rfl) (ls_ins ls_end)))) ?_
  refine g_iload (n := 6) X (by decide +kernel) 2 rfl ?_
  refine g_iconst (n := -1) (x := (-1 : Int32)) X (by decide +kernel) (by decide) ?_
  rcases it_E E with ⟨c24, E⟩ | ⟨c24, E⟩
  · refine g_icmp_eq_t (off := 28) (tgt := 189) X (by decide +kernel) (by decide) c24 ?_
    refine g_iconst (n := 0) (x := (0 : Int32)) X (by decide +kernel) (by decide) ?_
    obtain ⟨rfl, rfl⟩ := rt_E E
    exact g_zreturn X (by decide +kernel) rfl
  · refine g_icmp_eq_f (off := 28) (tgt := 189) X (by decide +kernel) (by decide) c24 ?_
    refine g_iload (n := 6) X (by decide +kernel) 2 rfl ?_
    refine g_aload_n (n := 0) X (by decide +kernel) 0 rfl ?_
    refine g_getI X (by decide +kernel) fl10_18 px0 ?_
    rcases it_E E with ⟨c25, E⟩ | ⟨c25, E⟩
    · refine g_icmp_eq_t (off := 19) (tgt := 189) X (by decide +kernel) (by decide) c25 ?_
      refine g_iconst (n := 0) (x := (0 : Int32)) X (by decide +kernel) (by decide) ?_
      obtain ⟨rfl, rfl⟩ := rt_E E
      exact g_zreturn X (by decide +kernel) rfl
    · refine g_icmp_eq_f (off := 19) (tgt := 189) X (by decide +kernel) (by decide) c25 ?_
      refine g_iload (n := 7) X (by decide +kernel) 3 rfl ?_
      refine g_iload (n := 5) X (by decide +kernel) 1 rfl ?_
      refine g_iconst (n := 4) (x := (4 : Int32)) X (by decide +kernel) (by decide) ?_
      have hJ : Go Γ (0, 0) 186 [(0, .ref x0), (6, .int x6)] [.int (if x5 = (4 : Int32) then (1 : Int32) else (0 : Int32)), .int s0] sz K h := by
        exact w10_perform_J186 X hK x0 x6 s0 (if x5 = (4 : Int32) then (1 : Int32) else (0 : Int32)) h px0 E
      clear E
      by_cases c26 : x5 = (4 : Int32)
      · rw [if_pos c26] at hJ
        refine g_icmp_ne_f (off := 7) (tgt := 185) X (by decide +kernel) (by decide) (fun z => z c26) ?_
        refine g_iconst (n := 1) (x := (1 : Int32)) X (by decide +kernel) (by decide) ?_
        refine g_goto (off := 4) (tgt := 186) X (by decide +kernel) (by decide) ?_
        refine g_sub [0, 2] rfl ?_
        exact hJ
      · rw [if_neg c26] at hJ
        refine g_icmp_ne_t (off := 7) (tgt := 185) X (by decide +kernel) (by decide) c26 ?_
        refine g_iconst (n := 0) (x := (0 : Int32)) X (by decide +kernel) (by decide) ?_
        refine g_sub [0, 2] rfl ?_
        exact hJ
set_option maxHeartbeats 4000000 in
set_option maxRecDepth 20000 in
theorem c10_perform {sp : Sp} {K : Ly} {sz n : Nat} (hK : LyOk K) (o : Nat) (a1 : Nat) (a2 : Int32) (h : Hp) (ho : K o = some (.inl 10)) (ha1 : K a1 = some (.inl 3)) {v : Int32} {hf : Hp} (E : f10_perform K n o a1 a2 h = some (v, hf)) : Con sp y10_perform prog_2_method_4_code 8 (some (.boolean)) 6 0 0 [.ref o, .ref a1, .int a2] sz K h (some (.int v)) sz K hf := by
  refine Con.of (by decide) (Nat.le_of_ble_eq_true rfl) (fun Γ X _ => ?_)
  show Go Γ (0, 0) 0 [(0, .ref o), (1, .ref a1), (2, .int a2)] [] sz K h
  unfold f10_perform at E
  refine g_aload_n (n := 1) X (by decide +kernel) 1 rfl ?_
  refine g_getS X (by decide +kernel) fl10_117 ha1 ?_
  refine g_iload_n (n := 2) X (by decide +kernel) 2 rfl ?_
  obtain ⟨c1, E⟩ := gd_E E
  refine g_iald X (by decide +kernel) (ly hK ha1 fl10_117 rfl) c1 ?_
  obtain ⟨x3_2, ex3_2, E⟩ := lt_E E
  refine s_istore_n (n := 3) (i := 3) X (by decide +kernel) rfl (by decide) ex3_2 (ls_next (by decide) (Or.inr rfl) (ls_next (by decide) (Or.inr rfl) (ls_next (by decide) (Or.inr rfl) (ls_ins ls_end)))) ?_
  refine g_aload_n (n := 1) X (by decide +kernel) 1 rfl ?_
  refine g_getS X (by decide +kernel) fl10_120 ha1 ?_
  refine g_iload_n (n := 2) X (by decide +kernel) 2 rfl ?_
  obtain ⟨c3, E⟩ := gd_E E
  refine g_iald X (by decide +kernel) (ly hK ha1 fl10_120 rfl) c3 ?_
  obtain ⟨x4_4, ex4_4, E⟩ := lt_E E
  refine s_istore (i := 4) X (by decide +kernel) (by decide) ex4_4 (ls_next (by decide) (Or.inr rfl) (ls_next (by decide) (Or.inr rfl) (ls_next (by decide) (Or.inr rfl) (ls_next (by decide) (Or.inr rfl) (ls_ins ls_end))))) ?_
  refine g_aload_n (n := 1) X (by decide +kernel) 1 rfl ?_
  refine g_getS X (by decide +kernel) fl10_123 ha1 ?_
  refine g_iload_n (n := 2) X (by decide +kernel) 2 rfl ?_
  obtain ⟨c5, E⟩ := gd_E E
  refine g_iald X (by decide +kernel) (ly hK ha1 fl10_123 rfl) c5 ?_
  obtain ⟨x5_6, ex5_6, E⟩ := lt_E E
  refine s_istore (i := 5) X (by decide +kernel) (by decide) ex5_6 (ls_next (by decide) (Or.inr rfl) (ls_next (by decide) (Or.inr rfl) (ls_next (by decide) (Or.inr rfl) (ls_next (by decide) (Or.inr rfl) (ls_next (by decide) (Or.inr rfl) (ls_ins ls_end)))))) ?_
  refine g_iload (n := 5) X (by decide +kernel) 5 rfl ?_
  rcases it_E E with ⟨c7, E⟩ | ⟨c7, E⟩
  · refine g_if_eq_t (off := 9) (tgt := 34) X (by decide +kernel) (by decide) c7 ?_
    refine g_sub [0, 2, 3, 4, 5] rfl ?_
    exact w10_perform_J34 X hK o a2 x3_2 x4_4 x5_6 h ho E
  · refine g_if_eq_f (off := 9) (tgt := 34) X (by decide +kernel) (by decide) c7 ?_
    refine g_iload (n := 5) X (by decide +kernel) 5 rfl ?_
    refine g_iconst (n := 1) (x := (1 : Int32)) X (by decide +kernel) (by decide) ?_
    rcases it_E E with ⟨c8, E⟩ | ⟨c8, E⟩
    · refine g_icmp_ne_f (off := 37) (tgt := 68) X (by decide +kernel) (by decide) (fun z => z c8) ?_
      refine g_sub [0, 2, 3, 4, 5] rfl ?_
      exact w10_perform_J34 X hK o a2 x3_2 x4_4 x5_6 h ho E
    · refine g_icmp_ne_t (off := 37) (tgt := 68) X (by decide +kernel) (by decide) c8 ?_
      refine g_iload (n := 5) X (by decide +kernel) 5 rfl ?_
      refine g_iconst (n := 2) (x := (2 : Int32)) X (by decide +kernel) (by decide) ?_
      rcases it_E E with ⟨c9, E⟩ | ⟨c9, E⟩
      · refine g_icmp_ne_f (off := 50) (tgt := 121) X (by decide +kernel) (by decide) (fun z => z c9) ?_
        refine g_aload_n (n := 0) X (by decide +kernel) 0 rfl ?_
        refine g_getI X (by decide +kernel) fl10_22 ho ?_
        refine g_iload_n (n := 3) X (by decide +kernel) 3 rfl ?_
        refine g_iadd X (by decide +kernel) ?_
        obtain ⟨x6_10, ex6_10, E⟩ := lt_E E
        refine s_istore (i := 6) X (by decide +kernel) (by decide) ex6_10 (ls_next (by decide) (Or.inr rfl) (ls_next (by decide) (Or.inr rfl) (ls_next (by decide) (Or.inr rfl) (ls_next (by decide) (Or.inr rfl) (ls_next (by decide) (Or.inr rfl) (ls_next (by decide) (Or.inr rfl) (ls_ins ls_end))))))) ?_
        refine g_iconst (n := 0) (x := (0 : Int32)) X (by decide +kernel) (by decide) ?_
        refine s_istore (i := 7) X (by decide +kernel) (by decide) rfl (ls_next (by decide) (Or.inr rfl) (ls_next (by decide) (Or.inr rfl) (ls_next (by decide) (Or.inr rfl) (ls_next (by decide) (Or.inr rfl) (ls_next (by decide) (Or.inr rfl) (ls_next (by decide) (Or.inr rfl) (ls_next (by decide) (Or.inr rfl) (ls_ins ls_end)))))))) ?_
        refine g_sub [0, 3, 6, 7] rfl ?_
        exact w10_perform_L85 X hK o x3_2 x6_10 ho n (0 : Int32) h E
      · refine g_icmp_ne_t (off := 50) (tgt := 121) X (by decide +kernel) (by decide) c9 ?_
        refine g_aload_n (n := 0) X (by decide +kernel) 0 rfl ?_
        obtain ⟨o11, qo11, po11, E⟩ := ob_E E
        refine g_getR X (by decide +kernel) fl10_12 ho qo11 ?_
        refine g_iload_n (n := 3) X (by decide +kernel) 3 rfl ?_
        refine g_iload (n := 4) X (by decide +kernel) 4 rfl ?_
        obtain ⟨y13, e12, E⟩ := bp_E E
        refine g_callV1 (st := []) X [.int x3_2, .int x4_4] (by decide +kernel) ml10_137 po11 rfl rfl (by decide) (Nat.le_of_ble_eq_true rfl) (c2_linkBetween hK o11 x3_2 x4_4 h po11 e12) ?_
        refine s_istore (i := 6) X (by decide +kernel) (by decide) rfl (ls_next (by decide) (Or.inr rfl) (ls_next (by decide) (Or.inr rfl) (ls_next (by decide) (Or.inr rfl) (ls_next (by decide) (Or.inr rfl) (ls_next (by decide) (Or.inr rfl) (ls_next (by decide) (Or.inr rfl) (ls_ins ls_end))))))) ?_
        refine g_iload (n := 6) X (by decide +kernel) 6 rfl ?_
        refine g_iconst (n := -1) (x := (-1 : Int32)) X (by decide +kernel) (by decide) ?_
        have hJ : Go Γ (0, 0) 156 [(0, .ref o), (5, .int x5_6), (6, .int y13)] [.int (if y13 = (-1 : Int32) then (0 : Int32) else (if ((h.1 o 3) &&& ((1 : Int32) <<< (y13 &&& 31))) = 0 then (0 : Int32) else (1 : Int32)))] sz K h := by
          exact w10_perform_J156 X hK o x5_6 y13 (if y13 = (-1 : Int32) then (0 : Int32) else (if ((h.1 o 3) &&& ((1 : Int32) <<< (y13 &&& 31))) = 0 then (0 : Int32) else (1 : Int32))) h ho E
        clear E
        by_cases c14 : y13 = (-1 : Int32)
        · rw [if_pos c14] at hJ
          refine g_icmp_eq_t (off := 19) (tgt := 155) X (by decide +kernel) (by decide) c14 ?_
          refine g_iconst (n := 0) (x := (0 : Int32)) X (by decide +kernel) (by decide) ?_
          refine g_sub [0, 5, 6] rfl ?_
          exact hJ
        · rw [if_neg c14] at hJ
          refine g_icmp_eq_f (off := 19) (tgt := 155) X (by decide +kernel) (by decide) c14 ?_
          refine g_aload_n (n := 0) X (by decide +kernel) 0 rfl ?_
          refine g_getI X (by decide +kernel) fl10_25 ho ?_
          refine g_iconst (n := 1) (x := (1 : Int32)) X (by decide +kernel) (by decide) ?_
          refine g_iload (n := 6) X (by decide +kernel) 6 rfl ?_
          refine g_ishl X (by decide +kernel) ?_
          refine g_iand X (by decide +kernel) ?_
          by_cases c15 : ((h.1 o 3) &&& ((1 : Int32) <<< (y13 &&& 31))) = 0
          · rw [if_pos c15] at hJ
            refine g_if_eq_t (off := 7) (tgt := 155) X (by decide +kernel) (by decide) c15 ?_
            refine g_iconst (n := 0) (x := (0 : Int32)) X (by decide +kernel) (by decide) ?_
            refine g_sub [0, 5, 6] rfl ?_
            exact hJ
          · rw [if_neg c15] at hJ
            refine g_if_eq_f (off := 7) (tgt := 155) X (by decide +kernel) (by decide) c15 ?_
            refine g_iconst (n := 1) (x := (1 : Int32)) X (by decide +kernel) (by decide) ?_
            refine g_goto (off := 4) (tgt := 156) X (by decide +kernel) (by decide) ?_
            refine g_sub [0, 5, 6] rfl ?_
            exact hJ
-- Course.replay
def f10_replay_J65 (K : Ly) (n : Nat)  (x2 : Nat) (x3 : Int32) (h : Hp) : Option (Int32 × Hp) :=
    some ((jmin x3 (h.1 x2 0)), h)
def f10_replay_L10 (K : Ly) (n : Nat) (x0 : Nat) (x2 : Nat) (x3 : Int32)   : Nat → Int32 → Hp → Option (Int32 × Hp)
  | 0, _, _ => none
  | k + 1, x5, h =>
    if x3 ≤ x5 then (
    f10_replay_J65 K n x2 x3 h)
    else (
    if (h.1 x2 0) ≤ x5 then (
    f10_replay_J65 K n x2 x3 h)
    else (
    bd (f10_perform K n x0 x2 x5 h) fun y7 h6 =>
    if y7 = 0 then (
    some (x5, h6))
    else (
    lt (sI h6 (x0 + 22) (6 : Int32).toNatClampNeg (jmax (h6.1 (x0 + 22) (6 : Int32).toNatClampNeg) (h6.1 x0 6))) fun h9 =>
    lt (x5 + (1 : Int32)) fun x5_10 =>
    f10_replay_L10 K n x0 x2 x3  k x5_10 h9)))
def f10_replay (K : Ly) (n : Nat) (o : Nat) (a1 : Nat) (a2 : Nat) (a3 : Int32) (a4 : Int32) (h : Hp) : Option (Int32 × Hp) :=
    bp (f10_begin K n o a1 a4 h) fun h2 =>
    f10_replay_L10 K n o a2 a3 n (0 : Int32) h2
set_option maxHeartbeats 4000000 in
set_option maxRecDepth 20000 in
theorem w10_replay_J65 {Γ : CT} {sp : Sp} {K : Ly} {sz n : Nat} {v : Int32} {hf : Hp}   (X : Ok Γ sp prog_2_method_3_code Rc10 6 (some (.int)) 7 (some (.int v)) sz K hf) (hK : LyOk K) (x2 : Nat) (x3 : Int32) (h : Hp)  (px2 : K x2 = some (.inl 3)) (E : f10_replay_J65 K n x2 x3 h = some (v, hf)) : Go Γ (0, 0) 65 [(2, .ref x2), (3, .int x3)] [] sz K h := by
  unfold f10_replay_J65 at E
  refine g_iload_n (n := 3) X (by decide +kernel) 1 rfl ?_
  refine g_aload_n (n := 2) X (by decide +kernel) 0 rfl ?_
  refine g_getI X (by decide +kernel) fl10_99 px2 ?_
  refine g_mmin X (by decide +kernel) ml10_114 (by decide) (Nat.le_of_ble_eq_true rfl) ?_
  obtain ⟨rfl, rfl⟩ := rt_E E
  exact g_ireturn X (by decide +kernel)
set_option maxHeartbeats 4000000 in
set_option maxRecDepth 20000 in
theorem w10_replay_L10 {Γ : CT} {sp : Sp} {K : Ly} {sz n : Nat} {v : Int32} {hf : Hp}  (X : Ok Γ sp prog_2_method_3_code Rc10 6 (some (.int)) 7 (some (.int v)) sz K hf) (hK : LyOk K) (x0 : Nat) (x2 : Nat) (x3 : Int32)  (px0 : K x0 = some (.inl 10)) (px2 : K x2 = some (.inl 3))  : ∀ (k : Nat) (x5 : Int32) (h : Hp), f10_replay_L10 K n x0 x2 x3  k x5 h = some (v, hf) → Go Γ (0, 0) 10 [(0, .ref x0), (2, .ref x2), (3, .int x3), (5, .int x5)] [] sz K h := by
  intro k
  induction k with
  | zero => intro x5 h E; cases E
  | succ k ih =>
    intro x5 h E
    unfold f10_replay_L10 at E
    refine g_iload (n := 5) X (by decide +kernel) 3 rfl ?_
    refine g_iload_n (n := 3) X (by decide +kernel) 2 rfl ?_
    rcases it_E E with ⟨c3, E⟩ | ⟨c3, E⟩
    · refine g_icmp_ge_t (off := 52) (tgt := 65) X (by decide +kernel) (by decide) c3 ?_
      refine g_sub [1, 2] rfl ?_
      exact w10_replay_J65 X hK x2 x3 h px2 E
    · refine g_icmp_ge_f (off := 52) (tgt := 65) X (by decide +kernel) (by decide) c3 ?_
      refine g_iload (n := 5) X (by decide +kernel) 3 rfl ?_
      refine g_aload_n (n := 2) X (by decide +kernel) 1 rfl ?_
      refine g_getI X (by decide +kernel) fl10_99 px2 ?_
      rcases it_E E with ⟨c4, E⟩ | ⟨c4, E⟩
      · refine g_icmp_ge_t (off := 43) (tgt := 65) X (by decide +kernel) (by decide) c4 ?_
        refine g_sub [1, 2] rfl ?_
        exact w10_replay_J65 X hK x2 x3 h px2 E
      · refine g_icmp_ge_f (off := 43) (tgt := 65) X (by decide +kernel) (by decide) c4 ?_
        refine g_aload_n (n := 0) X (by decide +kernel) 0 rfl ?_
        refine g_aload_n (n := 2) X (by decide +kernel) 1 rfl ?_
        refine g_iload (n := 5) X (by decide +kernel) 3 rfl ?_
        obtain ⟨y7, h6, e5, E⟩ := bd_E E
        refine g_callV1 (st := []) X [.ref x2, .int x5] (by decide +kernel) ml10_104 px0 rfl rfl (by decide) (Nat.le_of_ble_eq_true rfl) (c10_perform hK x0 x2 x5 h px0 px2 e5) ?_
        rcases it_E E with ⟨c8, E⟩ | ⟨c8, E⟩
        · refine g_if_ne_f (off := 6) (tgt := 38) X (by decide +kernel) (by decide) (fun z => z c8) ?_
          refine g_iload (n := 5) X (by decide +kernel) 3 rfl ?_
          obtain ⟨rfl, rfl⟩ := rt_E E
          exact g_ireturn X (by decide +kernel)
        · refine g_if_ne_t (off := 6) (tgt := 38) X (by decide +kernel) (by decide) c8 ?_
          refine g_aload_n (n := 0) X (by decide +kernel) 0 rfl ?_
          refine g_getS X (by decide +kernel) fl10_77 px0 ?_
          refine g_bipush (n := 6) (x := (6 : Int32)) X (by decide +kernel) (by decide) ?_
          refine g_aload_n (n := 0) X (by decide +kernel) 0 rfl ?_
          refine g_getS X (by decide +kernel) fl10_77 px0 ?_
          refine g_bipush (n := 6) (x := (6 : Int32)) X (by decide +kernel) (by decide) ?_
          refine g_iald X (by decide +kernel) (ly hK px0 fl10_77 rfl) (by decide) ?_
          refine g_aload_n (n := 0) X (by decide +kernel) 0 rfl ?_
          refine g_getI X (by decide +kernel) fl10_37 px0 ?_
          refine g_mmax X (by decide +kernel) ml10_108 (by decide) (Nat.le_of_ble_eq_true rfl) ?_
          obtain ⟨h9, eh9, E⟩ := lt_E E
          refine g_iast X (by decide +kernel) (ly hK px0 fl10_77 rfl) (by decide) eh9 ?_
          obtain ⟨x5_10, ex5_10, E⟩ := lt_E E
          refine s_iinc (i := 5) (n := 1) (y := x5_10) X (by decide +kernel) 3 rfl (by decide) ex5_10 (ls_next (by decide) (Or.inr rfl) (ls_next (by decide) (Or.inr rfl) (ls_next (by decide) (Or.inr rfl) (ls_here ls_end)))) ?_
          refine g_goto (off := -52) (tgt := 10) X (by decide +kernel) (by decide) ?_
          exact ih x5_10 h9  E
set_option maxHeartbeats 4000000 in
set_option maxRecDepth 20000 in
theorem c10_replay {sp : Sp} {K : Ly} {sz n : Nat} (hK : LyOk K) (o : Nat) (a1 : Nat) (a2 : Nat) (a3 : Int32) (a4 : Int32) (h : Hp) (ho : K o = some (.inl 10)) (ha1 : K a1 = some (.inl 2)) (ha2 : K a2 = some (.inl 3)) {v : Int32} {hf : Hp} (E : f10_replay K n o a1 a2 a3 a4 h = some (v, hf)) : Con sp y10_replay prog_2_method_3_code 6 (some (.int)) 7 0 0 [.ref o, .ref a1, .ref a2, .int a3, .int a4] sz K h (some (.int v)) sz K hf := by
  refine Con.of (by decide) (Nat.le_of_ble_eq_true rfl) (fun Γ X _ => ?_)
  show Go Γ (0, 0) 0 [(0, .ref o), (1, .ref a1), (2, .ref a2), (3, .int a3), (4, .int a4)] [] sz K h
  unfold f10_replay at E
  refine g_aload_n (n := 0) X (by decide +kernel) 0 rfl ?_
  refine g_aload_n (n := 1) X (by decide +kernel) 1 rfl ?_
  refine g_iload (n := 4) X (by decide +kernel) 4 rfl ?_
  obtain ⟨h2, e1, E⟩ := bp_E E
  refine g_callV0 (st := []) X [.ref a1, .int a4] (by decide +kernel) ml10_95 ho rfl rfl (by decide) (Nat.le_of_ble_eq_true rfl) (c10_begin hK o a1 a4 h ho ha1 e1) ?_
  refine g_iconst (n := 0) (x := (0 : Int32)) X (by decide +kernel) (by decide) ?_
  refine s_istore (i := 5) X (by decide +kernel) (by decide) rfl (ls_next (by decide) (Or.inr rfl) (ls_next (by decide) (Or.inr rfl) (ls_next (by decide) (Or.inr rfl) (ls_next (by decide) (Or.inr rfl) (ls_next (by decide) (Or.inr rfl) (ls_ins ls_end)))))) ?_
  refine g_sub [0, 2, 3, 5] rfl ?_
  exact w10_replay_L10 X hK o a2 a3 ho ha2 n (0 : Int32) h2 E
-- Course.entriesAt
def f10_entriesAt_L4 (K : Ly) (n : Nat) (x0 : Nat) (x1 : Int32) (h : Hp)  : Nat → Int32 → Int32 → Option (Int32)
  | 0, _, _ => none
  | k + 1, x2, x3 =>
    if (h.1 x0 6) ≤ x3 then (
    some x2)
    else (
    gd (inb x3 360) <|
    ob (h.2.2 (x0 + 14) x3.toNatClampNeg) K 6 fun o3 =>
    lt (x3 + (1 : Int32)) fun x3_5 =>
    f10_entriesAt_L4 K n x0 x1 h  k (if (h.1 o3 0) = x1 then (x2 + (1 : Int32)) else x2) x3_5)
def f10_entriesAt (K : Ly) (n : Nat) (o : Nat) (a1 : Int32) (h : Hp) : Option (Int32) :=
    f10_entriesAt_L4 K n o a1 h n (0 : Int32) (0 : Int32)
set_option maxHeartbeats 4000000 in
set_option maxRecDepth 20000 in
theorem w10_entriesAt_L4 {Γ : CT} {sp : Sp} {K : Ly} {sz n : Nat} {v : Int32} {h : Hp}  (X : Ok Γ sp prog_2_method_33_code Rc10 4 (some (.int)) 1 (some (.int v)) sz K h) (hK : LyOk K) (x0 : Nat) (x1 : Int32)  (px0 : K x0 = some (.inl 10))  : ∀ (k : Nat) (x2 : Int32) (x3 : Int32), f10_entriesAt_L4 K n x0 x1 h  k x2 x3 = some v → Go Γ (0, 0) 4 [(0, .ref x0), (1, .int x1), (2, .int x2), (3, .int x3)] [] sz K h := by
  intro k
  induction k with
  | zero => intro x2 x3 E; cases E
  | succ k ih =>
    intro x2 x3 E
    unfold f10_entriesAt_L4 at E
    refine g_iload_n (n := 3) X (by decide +kernel) 3 rfl ?_
    refine g_aload_n (n := 0) X (by decide +kernel) 0 rfl ?_
    refine g_getI X (by decide +kernel) fl10_37 px0 ?_
    rcases it_E E with ⟨c1, E⟩ | ⟨c1, E⟩
    · refine g_icmp_ge_t (off := 25) (tgt := 34) X (by decide +kernel) (by decide) c1 ?_
      refine g_iload_n (n := 2) X (by decide +kernel) 2 rfl ?_
      obtain rfl := Option.some.inj E
      exact g_ireturn X (by decide +kernel)
    · refine g_icmp_ge_f (off := 25) (tgt := 34) X (by decide +kernel) (by decide) c1 ?_
      refine g_aload_n (n := 0) X (by decide +kernel) 0 rfl ?_
      refine g_getS X (by decide +kernel) fl10_33 px0 ?_
      refine g_iload_n (n := 3) X (by decide +kernel) 3 rfl ?_
      obtain ⟨c2, E⟩ := gd_E E
      obtain ⟨o3, qo3, po3, E⟩ := ob_E E
      refine g_aald (C := "AskedNames$Entry") X (by decide +kernel) (ly hK px0 fl10_33 rfl) rfl rfl c2 qo3 ?_
      refine g_getI X (by decide +kernel) fl10_213 po3 ?_
      refine g_iload_n (n := 1) X (by decide +kernel) 1 rfl ?_
      have hJ : Go Γ (0, 0) 28 [(0, .ref x0), (1, .int x1), (2, .int (if (h.1 o3 0) = x1 then (x2 + (1 : Int32)) else x2)), (3, .int x3)] [] sz K h := by
        obtain ⟨x3_5, ex3_5, E⟩ := lt_E E
        refine s_iinc (i := 3) (n := 1) (y := x3_5) X (by decide +kernel) 3 rfl (by decide) ex3_5 (ls_next (by decide) (Or.inr rfl) (ls_next (by decide) (Or.inr rfl) (ls_next (by decide) (Or.inr rfl) (ls_here ls_end)))) ?_
        refine g_goto (off := -27) (tgt := 4) X (by decide +kernel) (by decide) ?_
        exact ih (if (h.1 o3 0) = x1 then (x2 + (1 : Int32)) else x2) x3_5  E
      clear E
      by_cases c4 : (h.1 o3 0) = x1
      · rw [if_pos c4] at hJ
        refine g_icmp_ne_f (off := 6) (tgt := 28) X (by decide +kernel) (by decide) (fun z => z c4) ?_
        refine s_iinc (i := 2) (n := 1) (y := (x2 + (1 : Int32))) X (by decide +kernel) 2 rfl (by decide) rfl (ls_next (by decide) (Or.inr rfl) (ls_next (by decide) (Or.inr rfl) (ls_here (ls_next (by decide) (Or.inr rfl) ls_end)))) ?_
        exact hJ
      · rw [if_neg c4] at hJ
        refine g_icmp_ne_t (off := 6) (tgt := 28) X (by decide +kernel) (by decide) c4 ?_
        exact hJ
set_option maxHeartbeats 4000000 in
set_option maxRecDepth 20000 in
theorem c10_entriesAt {sp : Sp} {K : Ly} {sz n : Nat} (hK : LyOk K) (o : Nat) (a1 : Int32) (h : Hp) (ho : K o = some (.inl 10)) {v : Int32} (E : f10_entriesAt K n o a1 h = some v) : Con sp y10_entriesAt prog_2_method_33_code 4 (some (.int)) 1 0 0 [.ref o, .int a1] sz K h (some (.int v)) sz K h := by
  refine Con.of (by decide) (Nat.le_of_ble_eq_true rfl) (fun Γ X _ => ?_)
  show Go Γ (0, 0) 0 [(0, .ref o), (1, .int a1)] [] sz K h
  unfold f10_entriesAt at E
  refine g_iconst (n := 0) (x := (0 : Int32)) X (by decide +kernel) (by decide) ?_
  refine s_istore_n (n := 2) (i := 2) X (by decide +kernel) rfl (by decide) rfl (ls_next (by decide) (Or.inr rfl) (ls_next (by decide) (Or.inr rfl) (ls_ins ls_end))) ?_
  refine g_iconst (n := 0) (x := (0 : Int32)) X (by decide +kernel) (by decide) ?_
  refine s_istore_n (n := 3) (i := 3) X (by decide +kernel) rfl (by decide) rfl (ls_next (by decide) (Or.inr rfl) (ls_next (by decide) (Or.inr rfl) (ls_next (by decide) (Or.inr rfl) (ls_ins ls_end)))) ?_
  exact w10_entriesAt_L4 X hK o a1 ho n (0 : Int32) (0 : Int32) E
-- Course.look
def f10_look (K : Ly) (n : Nat) (o : Nat) (a1 : Int32) (h : Hp) : Option (Int32) :=
    if a1 = (0 : Int32) then (
    some (h.1 o 2))
    else if a1 = (1 : Int32) then (
    some (h.1 o 8))
    else if a1 = (2 : Int32) then (
    some (h.1 o 6))
    else if a1 = (3 : Int32) then (
    some (fJInteger_bitCount (h.1 o 3)))
    else (
    if (10 : Int32) ≤ a1 then (
    lt (a1 - a1 / (10 : Int32) * (10 : Int32)) fun x2_6 =>
    lt (a1 / (10 : Int32)) fun x3_7 =>
    ob (h.2.2 o 0) K 2 fun o8 =>
    if (f2_hasNode o8 x2_6 h) = 0 then (
    some (-2 : Int32))
    else (
    if x3_7 = (1 : Int32) then (
    bp (f10_entriesAt K n o x2_6 h) fun y12 =>
    some y12)
    else if x3_7 = (2 : Int32) then (
    gd (inb x2_6 6) <|
    ob (h.2.2 (o + 20) x2_6.toNatClampNeg) K 8 fun o15 =>
    some (h.1 o15 0))
    else if x3_7 = (3 : Int32) then (
    gd (inb x2_6 6) <|
    some (fJLong_bitCount (h.2.1 (o + 19) x2_6.toNatClampNeg)))
    else (
    ob (h.2.2 o 0) K 2 fun o18 =>
    if (f2_hasNode o18 (x3_7 - (10 : Int32)) h) = 0 then (
    some (-2 : Int32))
    else (
    gd (inb (((x3_7 - (10 : Int32)) * (6 : Int32)) + x2_6) 36) <|
    some (h.1 (o + 18) (((x3_7 - (10 : Int32)) * (6 : Int32)) + x2_6).toNatClampNeg)))))
    else (
    some (-2 : Int32)))
set_option maxHeartbeats 4000000 in
set_option maxRecDepth 20000 in
theorem c10_look {sp : Sp} {K : Ly} {sz n : Nat} (hK : LyOk K) (o : Nat) (a1 : Int32) (h : Hp) (ho : K o = some (.inl 10)) {v : Int32} (E : f10_look K n o a1 h = some v) : Con sp y10_look prog_2_method_34_code 4 (some (.int)) 2 0 0 [.ref o, .int a1] sz K h (some (.int v)) sz K h := by
  refine Con.of (by decide) (Nat.le_of_ble_eq_true rfl) (fun Γ X _ => ?_)
  show Go Γ (0, 0) 0 [(0, .ref o), (1, .int a1)] [] sz K h
  unfold f10_look at E
  refine g_iload_n (n := 1) X (by decide +kernel) 1 rfl ?_
  rcases it_E E with ⟨c1, E⟩ | ⟨c1, E⟩
  · refine g_tab_in (dflt := 54) (lo := 0) (hi := 3) (offs := #[31, 36, 41, 46]) (len := 31) (off := 31) (tgt := 32) X (by decide +kernel) (by rw [c1]; decide) (by rw [c1]; decide) (by rw [c1]; decide) (by decide) ?_
    refine g_aload_n (n := 0) X (by decide +kernel) 0 rfl ?_
    refine g_getI X (by decide +kernel) fl10_22 ho ?_
    obtain rfl := Option.some.inj E
    exact g_ireturn X (by decide +kernel)
  · rcases it_E E with ⟨c2, E⟩ | ⟨c2, E⟩
    · refine g_tab_in (dflt := 54) (lo := 0) (hi := 3) (offs := #[31, 36, 41, 46]) (len := 31) (off := 36) (tgt := 37) X (by decide +kernel) (by rw [c2]; decide) (by rw [c2]; decide) (by rw [c2]; decide) (by decide) ?_
      refine g_aload_n (n := 0) X (by decide +kernel) 0 rfl ?_
      refine g_getI X (by decide +kernel) fl10_46 ho ?_
      obtain rfl := Option.some.inj E
      exact g_ireturn X (by decide +kernel)
    · rcases it_E E with ⟨c3, E⟩ | ⟨c3, E⟩
      · refine g_tab_in (dflt := 54) (lo := 0) (hi := 3) (offs := #[31, 36, 41, 46]) (len := 31) (off := 41) (tgt := 42) X (by decide +kernel) (by rw [c3]; decide) (by rw [c3]; decide) (by rw [c3]; decide) (by decide) ?_
        refine g_aload_n (n := 0) X (by decide +kernel) 0 rfl ?_
        refine g_getI X (by decide +kernel) fl10_37 ho ?_
        obtain rfl := Option.some.inj E
        exact g_ireturn X (by decide +kernel)
      · rcases it_E E with ⟨c4, E⟩ | ⟨c4, E⟩
        · refine g_tab_in (dflt := 54) (lo := 0) (hi := 3) (offs := #[31, 36, 41, 46]) (len := 31) (off := 46) (tgt := 47) X (by decide +kernel) (by rw [c4]; decide) (by rw [c4]; decide) (by rw [c4]; decide) (by decide) ?_
          refine g_aload_n (n := 0) X (by decide +kernel) 0 rfl ?_
          refine g_getI X (by decide +kernel) fl10_25 ho ?_
          refine g_callS1 (st := []) X [.int (h.1 o 3)] (by decide +kernel) ml10_375 (by decide) (Nat.le_of_ble_eq_true rfl) (cJInteger_bitCount hK (h.1 o 3) h ) ?_
          obtain rfl := Option.some.inj E
          exact g_ireturn X (by decide +kernel)
        · have z22 : a1.toInt < 0 ∨ 3 < a1.toInt := by
            have z := sw_out (x := a1) 0 3 (by decide) (by decide) (by
              intro j hj
              have hj2 : j = 0 ∨ j = 1 ∨ j = 2 ∨ j = 3 := by omega
              rcases hj2 with rfl | rfl | rfl | rfl
              · exact c1
              · exact c2
              · exact c3
              · exact c4)
            simpa using z
          refine g_tab_out (dflt := 54) (lo := 0) (hi := 3) (offs := #[31, 36, 41, 46]) (len := 31) (tgt := 55) X (by decide +kernel) z22 (by decide) ?_
          refine g_iload_n (n := 1) X (by decide +kernel) 1 rfl ?_
          refine g_bipush (n := 10) (x := (10 : Int32)) X (by decide +kernel) (by decide) ?_
          rcases it_E E with ⟨c5, E⟩ | ⟨c5, E⟩
          · refine g_icmp_ge_t (off := 6) (tgt := 64) X (by decide +kernel) (by decide) c5 ?_
            refine g_iload_n (n := 1) X (by decide +kernel) 1 rfl ?_
            refine g_bipush (n := 10) (x := (10 : Int32)) X (by decide +kernel) (by decide) ?_
            refine g_irem X (by decide +kernel) (by decide) ?_
            obtain ⟨x2_6, ex2_6, E⟩ := lt_E E
            refine s_istore_n (n := 2) (i := 2) X (by decide +kernel) rfl (by decide) ex2_6 (ls_next (by decide) (Or.inr rfl) (ls_next (by decide) (Or.inr rfl) (ls_ins ls_end))) ?_
            refine g_iload_n (n := 1) X (by decide +kernel) 1 rfl ?_
            refine g_bipush (n := 10) (x := (10 : Int32)) X (by decide +kernel) (by decide) ?_
            refine g_idiv X (by decide +kernel) (by decide) ?_
            obtain ⟨x3_7, ex3_7, E⟩ := lt_E E
            refine s_istore_n (n := 3) (i := 3) X (by decide +kernel) rfl (by decide) ex3_7 (ls_next (by decide) (Or.inr rfl) (ls_next (by decide) (Or.inr rfl) (ls_next (by decide) (Or.inr rfl) (ls_ins ls_end)))) ?_
            refine g_aload_n (n := 0) X (by decide +kernel) 0 rfl ?_
            obtain ⟨o8, qo8, po8, E⟩ := ob_E E
            refine g_getR X (by decide +kernel) fl10_12 ho qo8 ?_
            refine g_iload_n (n := 2) X (by decide +kernel) 2 rfl ?_
            refine g_callV1 (st := []) X [.int x2_6] (by decide +kernel) ml10_126 po8 rfl rfl (by decide) (Nat.le_of_ble_eq_true rfl) (c2_hasNode hK o8 x2_6 h po8) ?_
            rcases it_E E with ⟨c9, E⟩ | ⟨c9, E⟩
            · refine g_if_ne_f (off := 6) (tgt := 88) X (by decide +kernel) (by decide) (fun z => z c9) ?_
              refine g_bipush (n := -2) (x := (-2 : Int32)) X (by decide +kernel) (by decide) ?_
              obtain rfl := Option.some.inj E
              exact g_ireturn X (by decide +kernel)
            · refine g_if_ne_t (off := 6) (tgt := 88) X (by decide +kernel) (by decide) c9 ?_
              refine g_iload_n (n := 3) X (by decide +kernel) 3 rfl ?_
              rcases it_E E with ⟨c10, E⟩ | ⟨c10, E⟩
              · refine g_tab_in (dflt := 53) (lo := 1) (hi := 3) (offs := #[27, 33, 43]) (len := 27) (off := 27) (tgt := 116) X (by decide +kernel) (by rw [c10]; decide) (by rw [c10]; decide) (by rw [c10]; decide) (by decide) ?_
                refine g_aload_n (n := 0) X (by decide +kernel) 0 rfl ?_
                refine g_iload_n (n := 2) X (by decide +kernel) 2 rfl ?_
                obtain ⟨y12, e11, E⟩ := bp_E E
                refine g_callV1 (st := []) X [.int x2_6] (by decide +kernel) ml10_380 ho rfl rfl (by decide) (Nat.le_of_ble_eq_true rfl) (c10_entriesAt hK o x2_6 h ho e11) ?_
                obtain rfl := Option.some.inj E
                exact g_ireturn X (by decide +kernel)
              · rcases it_E E with ⟨c13, E⟩ | ⟨c13, E⟩
                · refine g_tab_in (dflt := 53) (lo := 1) (hi := 3) (offs := #[27, 33, 43]) (len := 27) (off := 33) (tgt := 122) X (by decide +kernel) (by rw [c13]; decide) (by rw [c13]; decide) (by rw [c13]; decide) (by decide) ?_
                  refine g_aload_n (n := 0) X (by decide +kernel) 0 rfl ?_
                  refine g_getS X (by decide +kernel) fl10_67 ho ?_
                  refine g_iload_n (n := 2) X (by decide +kernel) 2 rfl ?_
                  obtain ⟨c14, E⟩ := gd_E E
                  obtain ⟨o15, qo15, po15, E⟩ := ob_E E
                  refine g_aald (C := "AskedNames$Store") X (by decide +kernel) (ly hK ho fl10_67 rfl) rfl rfl c14 qo15 ?_
                  refine g_getI X (by decide +kernel) fl10_92 po15 ?_
                  obtain rfl := Option.some.inj E
                  exact g_ireturn X (by decide +kernel)
                · rcases it_E E with ⟨c16, E⟩ | ⟨c16, E⟩
                  · refine g_tab_in (dflt := 53) (lo := 1) (hi := 3) (offs := #[27, 33, 43]) (len := 27) (off := 43) (tgt := 132) X (by decide +kernel) (by rw [c16]; decide) (by rw [c16]; decide) (by rw [c16]; decide) (by decide) ?_
                    refine g_aload_n (n := 0) X (by decide +kernel) 0 rfl ?_
                    refine g_getS X (by decide +kernel) fl10_61 ho ?_
                    refine g_iload_n (n := 2) X (by decide +kernel) 2 rfl ?_
                    obtain ⟨c17, E⟩ := gd_E E
                    refine g_lald X (by decide +kernel) (ly hK ho fl10_61 rfl) c17 ?_
                    refine g_callS1 (st := []) X [.long (h.2.1 (o + 19) x2_6.toNatClampNeg)] (by decide +kernel) ml10_383 (by decide) (Nat.le_of_ble_eq_true rfl) (cJLong_bitCount hK (h.2.1 (o + 19) x2_6.toNatClampNeg) h ) ?_
                    obtain rfl := Option.some.inj E
                    exact g_ireturn X (by decide +kernel)
                  · have z21 : x3_7.toInt < 1 ∨ 3 < x3_7.toInt := by
                      have z := sw_out (x := x3_7) 1 2 (by decide) (by decide) (by
                        intro j hj
                        have hj2 : j = 0 ∨ j = 1 ∨ j = 2 := by omega
                        rcases hj2 with rfl | rfl | rfl
                        · exact c10
                        · exact c13
                        · exact c16)
                      simpa using z
                    refine g_tab_out (dflt := 53) (lo := 1) (hi := 3) (offs := #[27, 33, 43]) (len := 27) (tgt := 142) X (by decide +kernel) z21 (by decide) ?_
                    refine g_aload_n (n := 0) X (by decide +kernel) 0 rfl ?_
                    obtain ⟨o18, qo18, po18, E⟩ := ob_E E
                    refine g_getR X (by decide +kernel) fl10_12 ho qo18 ?_
                    refine g_iload_n (n := 3) X (by decide +kernel) 3 rfl ?_
                    refine g_bipush (n := 10) (x := (10 : Int32)) X (by decide +kernel) (by decide) ?_
                    refine g_isub X (by decide +kernel) ?_
                    refine g_callV1 (st := []) X [.int (x3_7 - (10 : Int32))] (by decide +kernel) ml10_126 po18 rfl rfl (by decide) (Nat.le_of_ble_eq_true rfl) (c2_hasNode hK o18 (x3_7 - (10 : Int32)) h po18) ?_
                    rcases it_E E with ⟨c19, E⟩ | ⟨c19, E⟩
                    · refine g_if_eq_t (off := 20) (tgt := 173) X (by decide +kernel) (by decide) c19 ?_
                      refine g_bipush (n := -2) (x := (-2 : Int32)) X (by decide +kernel) (by decide) ?_
                      obtain rfl := Option.some.inj E
                      exact g_ireturn X (by decide +kernel)
                    · refine g_if_eq_f (off := 20) (tgt := 173) X (by decide +kernel) (by decide) c19 ?_
                      refine g_aload_n (n := 0) X (by decide +kernel) 0 rfl ?_
                      refine g_getS X (by decide +kernel) fl10_57 ho ?_
                      refine g_iload_n (n := 3) X (by decide +kernel) 3 rfl ?_
                      refine g_bipush (n := 10) (x := (10 : Int32)) X (by decide +kernel) (by decide) ?_
                      refine g_isub X (by decide +kernel) ?_
                      refine g_bipush (n := 6) (x := (6 : Int32)) X (by decide +kernel) (by decide) ?_
                      refine g_imul X (by decide +kernel) ?_
                      refine g_iload_n (n := 2) X (by decide +kernel) 2 rfl ?_
                      refine g_iadd X (by decide +kernel) ?_
                      obtain ⟨c20, E⟩ := gd_E E
                      refine g_iald X (by decide +kernel) (ly hK ho fl10_57 rfl) c20 ?_
                      refine g_goto (off := 5) (tgt := 175) X (by decide +kernel) (by decide) ?_
                      obtain rfl := Option.some.inj E
                      exact g_ireturn X (by decide +kernel)
          · refine g_icmp_ge_f (off := 6) (tgt := 64) X (by decide +kernel) (by decide) c5 ?_
            refine g_bipush (n := -2) (x := (-2 : Int32)) X (by decide +kernel) (by decide) ?_
            obtain rfl := Option.some.inj E
            exact g_ireturn X (by decide +kernel)
-- Course.entryAt
def f10_entryAt_L5 (K : Ly) (n : Nat) (x0 : Nat) (x1 : Int32) (x2 : Int32) (h : Hp)  : Nat → Int32 → Int32 → Option (Option Nat)
  | 0, _, _ => none
  | k + 1, x3, x4 =>
    if (h.1 x0 6) ≤ x4 then (
    some none)
    else (
    gd (inb x4 360) <|
    ob (h.2.2 (x0 + 14) x4.toNatClampNeg) K 6 fun o3 =>
    if (h.1 o3 0) = x1 then (
    if x3 = x2 then (
    gd (inb x4 360) <|
    ob (h.2.2 (x0 + 14) x4.toNatClampNeg) K 6 fun o7 =>
    some (some o7))
    else (
    lt (x3 + (1 : Int32)) fun x3_8 =>
    lt (x4 + (1 : Int32)) fun x4_9 =>
    f10_entryAt_L5 K n x0 x1 x2 h  k x3_8 x4_9))
    else (
    lt (x4 + (1 : Int32)) fun x4_10 =>
    f10_entryAt_L5 K n x0 x1 x2 h  k x3 x4_10))
def f10_entryAt (K : Ly) (n : Nat) (o : Nat) (a1 : Int32) (a2 : Int32) (h : Hp) : Option (Option Nat) :=
    f10_entryAt_L5 K n o a1 a2 h n (0 : Int32) (0 : Int32)
set_option maxHeartbeats 4000000 in
set_option maxRecDepth 20000 in
theorem w10_entryAt_L5 {Γ : CT} {sp : Sp} {K : Ly} {sz n : Nat} {v : Option Nat} {h : Hp}  (X : Ok Γ sp prog_2_method_32_code Rc10 5 (some (.object "AskedNames$Entry")) 1 (some (va_rf v)) sz K h) (hK : LyOk K) (x0 : Nat) (x1 : Int32) (x2 : Int32)  (px0 : K x0 = some (.inl 10))  : ∀ (k : Nat) (x3 : Int32) (x4 : Int32), f10_entryAt_L5 K n x0 x1 x2 h  k x3 x4 = some v → Go Γ (0, 0) 5 [(0, .ref x0), (1, .int x1), (2, .int x2), (3, .int x3), (4, .int x4)] [] sz K h := by
  intro k
  induction k with
  | zero => intro x3 x4 E; cases E
  | succ k ih =>
    intro x3 x4 E
    unfold f10_entryAt_L5 at E
    refine g_iload (n := 4) X (by decide +kernel) 4 rfl ?_
    refine g_aload_n (n := 0) X (by decide +kernel) 0 rfl ?_
    refine g_getI X (by decide +kernel) fl10_37 px0 ?_
    rcases it_E E with ⟨c1, E⟩ | ⟨c1, E⟩
    · refine g_icmp_ge_t (off := 39) (tgt := 50) X (by decide +kernel) (by decide) c1 ?_
      refine g_null X (by decide +kernel) ?_
      obtain rfl := Option.some.inj E
      exact g_areturn (x := none) X (by decide +kernel) (Or.inl ⟨_, rfl⟩)
    · refine g_icmp_ge_f (off := 39) (tgt := 50) X (by decide +kernel) (by decide) c1 ?_
      refine g_aload_n (n := 0) X (by decide +kernel) 0 rfl ?_
      refine g_getS X (by decide +kernel) fl10_33 px0 ?_
      refine g_iload (n := 4) X (by decide +kernel) 4 rfl ?_
      obtain ⟨c2, E⟩ := gd_E E
      obtain ⟨o3, qo3, po3, E⟩ := ob_E E
      refine g_aald (C := "AskedNames$Entry") X (by decide +kernel) (ly hK px0 fl10_33 rfl) rfl rfl c2 qo3 ?_
      refine g_getI X (by decide +kernel) fl10_213 po3 ?_
      refine g_iload_n (n := 1) X (by decide +kernel) 1 rfl ?_
      rcases it_E E with ⟨c4, E⟩ | ⟨c4, E⟩
      · refine g_icmp_ne_f (off := 19) (tgt := 44) X (by decide +kernel) (by decide) (fun z => z c4) ?_
        refine g_iload_n (n := 3) X (by decide +kernel) 3 rfl ?_
        refine g_iload_n (n := 2) X (by decide +kernel) 2 rfl ?_
        rcases it_E E with ⟨c5, E⟩ | ⟨c5, E⟩
        · refine g_icmp_ne_f (off := 11) (tgt := 41) X (by decide +kernel) (by decide) (fun z => z c5) ?_
          refine g_aload_n (n := 0) X (by decide +kernel) 0 rfl ?_
          refine g_getS X (by decide +kernel) fl10_33 px0 ?_
          refine g_iload (n := 4) X (by decide +kernel) 4 rfl ?_
          obtain ⟨c6, E⟩ := gd_E E
          obtain ⟨o7, qo7, po7, E⟩ := ob_E E
          refine g_aald (C := "AskedNames$Entry") X (by decide +kernel) (ly hK px0 fl10_33 rfl) rfl rfl c6 qo7 ?_
          obtain rfl := Option.some.inj E
          exact g_areturn (x := (some o7)) X (by decide +kernel) (Or.inl ⟨_, rfl⟩)
        · refine g_icmp_ne_t (off := 11) (tgt := 41) X (by decide +kernel) (by decide) c5 ?_
          obtain ⟨x3_8, ex3_8, E⟩ := lt_E E
          refine s_iinc (i := 3) (n := 1) (y := x3_8) X (by decide +kernel) 3 rfl (by decide) ex3_8 (ls_next (by decide) (Or.inr rfl) (ls_next (by decide) (Or.inr rfl) (ls_next (by decide) (Or.inr rfl) (ls_here (ls_next (by decide) (Or.inr rfl) ls_end))))) ?_
          obtain ⟨x4_9, ex4_9, E⟩ := lt_E E
          refine s_iinc (i := 4) (n := 1) (y := x4_9) X (by decide +kernel) 4 rfl (by decide) ex4_9 (ls_next (by decide) (Or.inr rfl) (ls_next (by decide) (Or.inr rfl) (ls_next (by decide) (Or.inr rfl) (ls_next (by decide) (Or.inr rfl) (ls_here ls_end))))) ?_
          refine g_goto (off := -42) (tgt := 5) X (by decide +kernel) (by decide) ?_
          exact ih x3_8 x4_9  E
      · refine g_icmp_ne_t (off := 19) (tgt := 44) X (by decide +kernel) (by decide) c4 ?_
        obtain ⟨x4_10, ex4_10, E⟩ := lt_E E
        refine s_iinc (i := 4) (n := 1) (y := x4_10) X (by decide +kernel) 4 rfl (by decide) ex4_10 (ls_next (by decide) (Or.inr rfl) (ls_next (by decide) (Or.inr rfl) (ls_next (by decide) (Or.inr rfl) (ls_next (by decide) (Or.inr rfl) (ls_here ls_end))))) ?_
        refine g_goto (off := -42) (tgt := 5) X (by decide +kernel) (by decide) ?_
        exact ih x3 x4_10  E
set_option maxHeartbeats 4000000 in
set_option maxRecDepth 20000 in
theorem c10_entryAt {sp : Sp} {K : Ly} {sz n : Nat} (hK : LyOk K) (o : Nat) (a1 : Int32) (a2 : Int32) (h : Hp) (ho : K o = some (.inl 10)) {v : Option Nat} (E : f10_entryAt K n o a1 a2 h = some v) : Con sp y10_entryAt prog_2_method_32_code 5 (some (.object "AskedNames$Entry")) 1 0 0 [.ref o, .int a1, .int a2] sz K h (some (va_rf v)) sz K h := by
  refine Con.of (by decide) (Nat.le_of_ble_eq_true rfl) (fun Γ X _ => ?_)
  show Go Γ (0, 0) 0 [(0, .ref o), (1, .int a1), (2, .int a2)] [] sz K h
  unfold f10_entryAt at E
  refine g_iconst (n := 0) (x := (0 : Int32)) X (by decide +kernel) (by decide) ?_
  refine s_istore_n (n := 3) (i := 3) X (by decide +kernel) rfl (by decide) rfl (ls_next (by decide) (Or.inr rfl) (ls_next (by decide) (Or.inr rfl) (ls_next (by decide) (Or.inr rfl) (ls_ins ls_end)))) ?_
  refine g_iconst (n := 0) (x := (0 : Int32)) X (by decide +kernel) (by decide) ?_
  refine s_istore (i := 4) X (by decide +kernel) (by decide) rfl (ls_next (by decide) (Or.inr rfl) (ls_next (by decide) (Or.inr rfl) (ls_next (by decide) (Or.inr rfl) (ls_next (by decide) (Or.inr rfl) (ls_ins ls_end))))) ?_
  exact w10_entryAt_L5 X hK o a1 a2 ho n (0 : Int32) (0 : Int32) E
-- Course.askAlone
def f10_askAlone_L18 (K : Ly) (n : Nat) (x0 : Nat)   : Nat → Int32 → Hp → Option Hp
  | 0, _, _ => none
  | k + 1, x5, h =>
    if (99 : Int32) ≤ x5 then (
    some h)
    else (
    bp (f10_passMinute K n x0 h) fun h7 =>
    lt (x5 + (1 : Int32)) fun x5_8 =>
    f10_askAlone_L18 K n x0  k x5_8 h7)
def f10_askAlone (K : Ly) (n : Nat) (o : Nat) (a1 : Nat) (a2 : Int32) (a3 : Int32) (a4 : Int32) (h : Hp) : Option Hp :=
    bp (f10_begin K n o a1 (-1 : Int32) h) fun h2 =>
    bp (f10_ask K n o (0 : Int32) a2 a3 a4 h2) fun h4 =>
    f10_askAlone_L18 K n o n (0 : Int32) h4
set_option maxHeartbeats 4000000 in
set_option maxRecDepth 20000 in
theorem w10_askAlone_L18 {Γ : CT} {sp : Sp} {K : Ly} {sz n : Nat} {hf : Hp}  (X : Ok Γ sp prog_2_method_5_code Rc10 6 none 6 none sz K hf) (hK : LyOk K) (x0 : Nat)  (px0 : K x0 = some (.inl 10))  : ∀ (k : Nat) (x5 : Int32) (h : Hp), f10_askAlone_L18 K n x0  k x5 h = some hf → Go Γ (0, 0) 18 [(0, .ref x0), (5, .int x5)] [] sz K h := by
  intro k
  induction k with
  | zero => intro x5 h E; cases E
  | succ k ih =>
    intro x5 h E
    unfold f10_askAlone_L18 at E
    refine g_iload (n := 5) X (by decide +kernel) 1 rfl ?_
    refine g_bipush (n := 99) (x := (99 : Int32)) X (by decide +kernel) (by decide) ?_
    rcases it_E E with ⟨c5, E⟩ | ⟨c5, E⟩
    · refine g_icmp_ge_t (off := 13) (tgt := 35) X (by decide +kernel) (by decide) c5 ?_
      obtain rfl := Option.some.inj E
      exact g_return X (by decide +kernel)
    · refine g_icmp_ge_f (off := 13) (tgt := 35) X (by decide +kernel) (by decide) c5 ?_
      refine g_aload_n (n := 0) X (by decide +kernel) 0 rfl ?_
      obtain ⟨h7, e6, E⟩ := bp_E E
      refine g_callV0 (st := []) X [] (by decide +kernel) ml10_134 px0 rfl rfl (by decide) (Nat.le_of_ble_eq_true rfl) (c10_passMinute hK x0 h px0 e6) ?_
      obtain ⟨x5_8, ex5_8, E⟩ := lt_E E
      refine s_iinc (i := 5) (n := 1) (y := x5_8) X (by decide +kernel) 1 rfl (by decide) ex5_8 (ls_next (by decide) (Or.inr rfl) (ls_here ls_end)) ?_
      refine g_goto (off := -14) (tgt := 18) X (by decide +kernel) (by decide) ?_
      exact ih x5_8 h7  E
set_option maxHeartbeats 4000000 in
set_option maxRecDepth 20000 in
theorem c10_askAlone {sp : Sp} {K : Ly} {sz n : Nat} (hK : LyOk K) (o : Nat) (a1 : Nat) (a2 : Int32) (a3 : Int32) (a4 : Int32) (h : Hp) (ho : K o = some (.inl 10)) (ha1 : K a1 = some (.inl 2)) {hf : Hp} (E : f10_askAlone K n o a1 a2 a3 a4 h = some hf) : Con sp y10_askAlone prog_2_method_5_code 6 none 6 0 0 [.ref o, .ref a1, .int a2, .int a3, .int a4] sz K h none sz K hf := by
  refine Con.of (by decide) (Nat.le_of_ble_eq_true rfl) (fun Γ X _ => ?_)
  show Go Γ (0, 0) 0 [(0, .ref o), (1, .ref a1), (2, .int a2), (3, .int a3), (4, .int a4)] [] sz K h
  unfold f10_askAlone at E
  refine g_aload_n (n := 0) X (by decide +kernel) 0 rfl ?_
  refine g_aload_n (n := 1) X (by decide +kernel) 1 rfl ?_
  refine g_iconst (n := -1) (x := (-1 : Int32)) X (by decide +kernel) (by decide) ?_
  obtain ⟨h2, e1, E⟩ := bp_E E
  refine g_callV0 (st := []) X [.ref a1, .int (-1 : Int32)] (by decide +kernel) ml10_95 ho rfl rfl (by decide) (Nat.le_of_ble_eq_true rfl) (c10_begin hK o a1 (-1 : Int32) h ho ha1 e1) ?_
  refine g_aload_n (n := 0) X (by decide +kernel) 0 rfl ?_
  refine g_iconst (n := 0) (x := (0 : Int32)) X (by decide +kernel) (by decide) ?_
  refine g_iload_n (n := 2) X (by decide +kernel) 2 rfl ?_
  refine g_iload_n (n := 3) X (by decide +kernel) 3 rfl ?_
  refine g_iload (n := 4) X (by decide +kernel) 4 rfl ?_
  obtain ⟨h4, e3, E⟩ := bp_E E
  refine g_callV0 (st := []) X [.int (0 : Int32), .int a2, .int a3, .int a4] (by decide +kernel) ml10_130 ho rfl rfl (by decide) (Nat.le_of_ble_eq_true rfl) (c10_ask hK o (0 : Int32) a2 a3 a4 h2 ho e3) ?_
  refine g_iconst (n := 0) (x := (0 : Int32)) X (by decide +kernel) (by decide) ?_
  refine s_istore (i := 5) X (by decide +kernel) (by decide) rfl (ls_next (by decide) (Or.inr rfl) (ls_next (by decide) (Or.inr rfl) (ls_next (by decide) (Or.inr rfl) (ls_next (by decide) (Or.inr rfl) (ls_next (by decide) (Or.inr rfl) (ls_ins ls_end)))))) ?_
  refine g_sub [0, 5] rfl ?_
  exact w10_askAlone_L18 X hK o ho n (0 : Int32) h4 E
-- Course.below
def f10_below (K : Ly) (n : Nat) (o : Nat) (a1 : Int32) (h : Hp) : Option (Int32 × Hp) :=
    lt (sI h o 4 (((h.1 o 4) * (1103515245 : Int32)) + (12345 : Int32))) fun h1 =>
    if a1 ≤ 0 then (
    some ((0 : Int32), h1))
    else (
    gd (decide (¬ a1 = 0)) <|
    some (((((h1.1 o 4).toUInt32 >>> ((16 : Int32).toUInt32 &&& Int32.toUInt32 31)).toInt32) - (((h1.1 o 4).toUInt32 >>> ((16 : Int32).toUInt32 &&& Int32.toUInt32 31)).toInt32) / a1 * a1), h1))
set_option maxHeartbeats 4000000 in
set_option maxRecDepth 20000 in
theorem c10_below {sp : Sp} {K : Ly} {sz n : Nat} (hK : LyOk K) (o : Nat) (a1 : Int32) (h : Hp) (ho : K o = some (.inl 10)) {v : Int32} {hf : Hp} (E : f10_below K n o a1 h = some (v, hf)) : Con sp y10_below prog_2_method_9_code 2 (some (.int)) 1 0 0 [.ref o, .int a1] sz K h (some (.int v)) sz K hf := by
  refine Con.of (by decide) (Nat.le_of_ble_eq_true rfl) (fun Γ X _ => ?_)
  show Go Γ (0, 0) 0 [(0, .ref o), (1, .int a1)] [] sz K h
  unfold f10_below at E
  refine g_aload_n (n := 0) X (by decide +kernel) 0 rfl ?_
  refine g_aload_n (n := 0) X (by decide +kernel) 0 rfl ?_
  refine g_getI X (by decide +kernel) fl10_28 ho ?_
  refine g_ldc (index := 163) (x := (1103515245 : Int32)) X (by decide +kernel) (in_c5 135 rfl rfl) ?_
  refine g_imul X (by decide +kernel) ?_
  refine g_sipush (n := 12345) (x := (12345 : Int32)) X (by decide +kernel) (by decide) ?_
  refine g_iadd X (by decide +kernel) ?_
  obtain ⟨h1, eh1, E⟩ := lt_E E
  refine g_putI X (by decide +kernel) fp10_28 ho eh1 ?_
  refine g_iload_n (n := 1) X (by decide +kernel) 1 rfl ?_
  rcases it_E E with ⟨c2, E⟩ | ⟨c2, E⟩
  · refine g_if_le_t (off := 15) (tgt := 31) X (by decide +kernel) (by decide) c2 ?_
    refine g_iconst (n := 0) (x := (0 : Int32)) X (by decide +kernel) (by decide) ?_
    obtain ⟨rfl, rfl⟩ := rt_E E
    exact g_ireturn X (by decide +kernel)
  · refine g_if_le_f (off := 15) (tgt := 31) X (by decide +kernel) (by decide) c2 ?_
    refine g_aload_n (n := 0) X (by decide +kernel) 0 rfl ?_
    refine g_getI X (by decide +kernel) fl10_28 ho ?_
    refine g_bipush (n := 16) (x := (16 : Int32)) X (by decide +kernel) (by decide) ?_
    refine g_iushr X (by decide +kernel) ?_
    refine g_iload_n (n := 1) X (by decide +kernel) 1 rfl ?_
    obtain ⟨c3, E⟩ := gd_E E
    refine g_irem X (by decide +kernel) (of_decide_eq_true c3) ?_
    refine g_goto (off := 4) (tgt := 32) X (by decide +kernel) (by decide) ?_
    obtain ⟨rfl, rfl⟩ := rt_E E
    exact g_ireturn X (by decide +kernel)
-- Course.drawAsk
def f10_drawAsk_J91 (K : Ly) (n : Nat)  (x2 : Int32) (s0 : Nat) (s1 : Int32) (s2 : Int32) (s3 : Int32) (h : Hp) : Option Hp :=
    bp (f10_ask K n s0 s1 s2 s3 x2 h) fun h21 =>
    some h21
def f10_drawAsk_J68 (K : Ly) (n : Nat)  (x0 : Nat) (x1 : Int32) (x2 : Int32) (x3 : Int32) (x4 : Int32) (x5 : Int32) (s0 : Int32) (h : Hp) : Option Hp :=
    f10_drawAsk_J91 K n x2 x0 x1 x3 (if s0 = 0 then x4 else ((x4 * (27 : Int32)) + x5)) h
def f10_drawAsk (K : Ly) (n : Nat) (o : Nat) (a1 : Int32) (a2 : Int32) (h : Hp) : Option Hp :=
    ob (h.2.2 o 0) K 2 fun o1 =>
    if (h.1 o1 4) ≤ 0 then (
    some h)
    else (
    ob (h.2.2 o 0) K 2 fun o3 =>
    bd (f10_below K n o (h.1 o3 0) h) fun y6 h5 =>
    ob (h5.2.2 o 0) K 2 fun o7 =>
    ob (h5.2.2 o 0) K 2 fun o8 =>
    bd (f10_below K n o (h5.1 o8 4) h5) fun y11 h10 =>
    gd (inb y11 6) <|
    lt (h10.1 (o7 + 11) y11.toNatClampNeg) fun x4_13 =>
    bd (f10_below K n o (3 : Int32) h10) fun y16 h15 =>
    f10_drawAsk_J68 K n o a1 a2 y6 x4_13 y16 (if y16 = 0 then (0 : Int32) else (if (19683 : Int32) ≤ x4_13 then (0 : Int32) else (1 : Int32))) h15)
set_option maxHeartbeats 4000000 in
set_option maxRecDepth 20000 in
theorem w10_drawAsk_J91 {Γ : CT} {sp : Sp} {K : Ly} {sz n : Nat} {hf : Hp}   (X : Ok Γ sp prog_2_method_7_code Rc10 7 none 6 none sz K hf) (hK : LyOk K) (x2 : Int32) (s0 : Nat) (s1 : Int32) (s2 : Int32) (s3 : Int32) (h : Hp)  (ps0 : K s0 = some (.inl 10)) (E : f10_drawAsk_J91 K n x2 s0 s1 s2 s3 h = some hf) : Go Γ (0, 0) 91 [(2, .int x2)] [.int s3, .int s2, .int s1, .ref s0] sz K h := by
  unfold f10_drawAsk_J91 at E
  refine g_iload_n (n := 2) X (by decide +kernel) 0 rfl ?_
  obtain ⟨h21, e20, E⟩ := bp_E E
  refine g_callV0 (st := []) X [.int s1, .int s2, .int s3, .int x2] (by decide +kernel) ml10_130 ps0 rfl rfl (by decide) (Nat.le_of_ble_eq_true rfl) (c10_ask hK s0 s1 s2 s3 x2 h ps0 e20) ?_
  obtain rfl := Option.some.inj E
  exact g_return X (by decide +kernel)
set_option maxHeartbeats 4000000 in
set_option maxRecDepth 20000 in
theorem w10_drawAsk_J68 {Γ : CT} {sp : Sp} {K : Ly} {sz n : Nat} {hf : Hp}   (X : Ok Γ sp prog_2_method_7_code Rc10 7 none 6 none sz K hf) (hK : LyOk K) (x0 : Nat) (x1 : Int32) (x2 : Int32) (x3 : Int32) (x4 : Int32) (x5 : Int32) (s0 : Int32) (h : Hp)  (px0 : K x0 = some (.inl 10)) (E : f10_drawAsk_J68 K n x0 x1 x2 x3 x4 x5 s0 h = some hf) : Go Γ (0, 0) 68 [(0, .ref x0), (1, .int x1), (2, .int x2), (3, .int x3), (4, .int x4), (5, .int x5)] [.int s0] sz K h := by
  unfold f10_drawAsk_J68 at E
  refine s_istore (i := 6) X (by decide +kernel) (by decide) rfl (ls_next (by decide) (Or.inr rfl) (ls_next (by decide) (Or.inr rfl) (ls_next (by decide) (Or.inr rfl) (ls_next (by decide) (Or.inr rfl) (ls_next (by decide) (Or.inr rfl) (ls_next (by decide) (Or.inr rfl) (ls_ins ls_end))))))) ?_
  refine g_aload_n (n := 0) X (by decide +kernel) 0 rfl ?_
  refine g_iload_n (n := 1) X (by decide +kernel) 1 rfl ?_
  refine g_iload_n (n := 3) X (by decide +kernel) 3 rfl ?_
  refine g_iload (n := 6) X (by decide +kernel) 6 rfl ?_
  have hJ : Go Γ (0, 0) 91 [(2, .int x2)] [.int (if s0 = 0 then x4 else ((x4 * (27 : Int32)) + x5)), .int x3, .int x1, .ref x0] sz K h := by
    exact w10_drawAsk_J91 X hK x2 x0 x1 x3 (if s0 = 0 then x4 else ((x4 * (27 : Int32)) + x5)) h px0 E
  clear E
  by_cases c19 : s0 = 0
  · rw [if_pos c19] at hJ
    refine g_if_eq_t (off := 14) (tgt := 89) X (by decide +kernel) (by decide) c19 ?_
    refine g_iload (n := 4) X (by decide +kernel) 4 rfl ?_
    refine g_sub [2] rfl ?_
    exact hJ
  · rw [if_neg c19] at hJ
    refine g_if_eq_f (off := 14) (tgt := 89) X (by decide +kernel) (by decide) c19 ?_
    refine g_iload (n := 4) X (by decide +kernel) 4 rfl ?_
    refine g_bipush (n := 27) (x := (27 : Int32)) X (by decide +kernel) (by decide) ?_
    refine g_imul X (by decide +kernel) ?_
    refine g_iload (n := 5) X (by decide +kernel) 5 rfl ?_
    refine g_iadd X (by decide +kernel) ?_
    refine g_goto (off := 5) (tgt := 91) X (by decide +kernel) (by decide) ?_
    refine g_sub [2] rfl ?_
    exact hJ
set_option maxHeartbeats 4000000 in
set_option maxRecDepth 20000 in
theorem c10_drawAsk {sp : Sp} {K : Ly} {sz n : Nat} (hK : LyOk K) (o : Nat) (a1 : Int32) (a2 : Int32) (h : Hp) (ho : K o = some (.inl 10)) {hf : Hp} (E : f10_drawAsk K n o a1 a2 h = some hf) : Con sp y10_drawAsk prog_2_method_7_code 7 none 6 0 0 [.ref o, .int a1, .int a2] sz K h none sz K hf := by
  refine Con.of (by decide) (Nat.le_of_ble_eq_true rfl) (fun Γ X _ => ?_)
  show Go Γ (0, 0) 0 [(0, .ref o), (1, .int a1), (2, .int a2)] [] sz K h
  unfold f10_drawAsk at E
  refine g_aload_n (n := 0) X (by decide +kernel) 0 rfl ?_
  obtain ⟨o1, qo1, po1, E⟩ := ob_E E
  refine g_getR X (by decide +kernel) fl10_12 ho qo1 ?_
  refine g_getI X (by decide +kernel) fl10_154 po1 ?_
  rcases it_E E with ⟨c2, E⟩ | ⟨c2, E⟩
  · refine g_if_le_t (off := 88) (tgt := 95) X (by decide +kernel) (by decide) c2 ?_
    obtain rfl := Option.some.inj E
    exact g_return X (by decide +kernel)
  · refine g_if_le_f (off := 88) (tgt := 95) X (by decide +kernel) (by decide) c2 ?_
    refine g_aload_n (n := 0) X (by decide +kernel) 0 rfl ?_
    refine g_aload_n (n := 0) X (by decide +kernel) 0 rfl ?_
    obtain ⟨o3, qo3, po3, E⟩ := ob_E E
    refine g_getR X (by decide +kernel) fl10_12 ho qo3 ?_
    refine g_getI X (by decide +kernel) fl10_157 po3 ?_
    obtain ⟨y6, h5, e4, E⟩ := bd_E E
    refine g_callV1 (st := []) X [.int (h.1 o3 0)] (by decide +kernel) ml10_140 ho rfl rfl (by decide) (Nat.le_of_ble_eq_true rfl) (c10_below hK o (h.1 o3 0) h ho e4) ?_
    refine s_istore_n (n := 3) (i := 3) X (by decide +kernel) rfl (by decide) rfl (ls_next (by decide) (Or.inr rfl) (ls_next (by decide) (Or.inr rfl) (ls_next (by decide) (Or.inr rfl) (ls_ins ls_end)))) ?_
    refine g_aload_n (n := 0) X (by decide +kernel) 0 rfl ?_
    obtain ⟨o7, qo7, po7, E⟩ := ob_E E
    refine g_getR X (by decide +kernel) fl10_12 ho qo7 ?_
    refine g_getS X (by decide +kernel) fl10_160 po7 ?_
    refine g_aload_n (n := 0) X (by decide +kernel) 0 rfl ?_
    refine g_aload_n (n := 0) X (by decide +kernel) 0 rfl ?_
    obtain ⟨o8, qo8, po8, E⟩ := ob_E E
    refine g_getR X (by decide +kernel) fl10_12 ho qo8 ?_
    refine g_getI X (by decide +kernel) fl10_154 po8 ?_
    obtain ⟨y11, h10, e9, E⟩ := bd_E E
    refine g_callV1 (st := [.ref (o7 + 11)]) X [.int (h5.1 o8 4)] (by decide +kernel) ml10_140 ho rfl rfl (by decide) (Nat.le_of_ble_eq_true rfl) (c10_below hK o (h5.1 o8 4) h5 ho e9) ?_
    obtain ⟨c12, E⟩ := gd_E E
    refine g_iald X (by decide +kernel) (ly hK po7 fl10_160 rfl) c12 ?_
    obtain ⟨x4_13, ex4_13, E⟩ := lt_E E
    refine s_istore (i := 4) X (by decide +kernel) (by decide) ex4_13 (ls_next (by decide) (Or.inr rfl) (ls_next (by decide) (Or.inr rfl) (ls_next (by decide) (Or.inr rfl) (ls_next (by decide) (Or.inr rfl) (ls_ins ls_end))))) ?_
    refine g_aload_n (n := 0) X (by decide +kernel) 0 rfl ?_
    refine g_iconst (n := 3) (x := (3 : Int32)) X (by decide +kernel) (by decide) ?_
    obtain ⟨y16, h15, e14, E⟩ := bd_E E
    refine g_callV1 (st := []) X [.int (3 : Int32)] (by decide +kernel) ml10_140 ho rfl rfl (by decide) (Nat.le_of_ble_eq_true rfl) (c10_below hK o (3 : Int32) h10 ho e14) ?_
    refine s_istore (i := 5) X (by decide +kernel) (by decide) rfl (ls_next (by decide) (Or.inr rfl) (ls_next (by decide) (Or.inr rfl) (ls_next (by decide) (Or.inr rfl) (ls_next (by decide) (Or.inr rfl) (ls_next (by decide) (Or.inr rfl) (ls_ins ls_end)))))) ?_
    refine g_iload (n := 5) X (by decide +kernel) 5 rfl ?_
    have hJ : Go Γ (0, 0) 68 [(0, .ref o), (1, .int a1), (2, .int a2), (3, .int y6), (4, .int x4_13), (5, .int y16)] [.int (if y16 = 0 then (0 : Int32) else (if (19683 : Int32) ≤ x4_13 then (0 : Int32) else (1 : Int32)))] sz K h15 := by
      exact w10_drawAsk_J68 X hK o a1 a2 y6 x4_13 y16 (if y16 = 0 then (0 : Int32) else (if (19683 : Int32) ≤ x4_13 then (0 : Int32) else (1 : Int32))) h15 ho E
    clear E
    by_cases c17 : y16 = 0
    · rw [if_pos c17] at hJ
      refine g_if_eq_t (off := 15) (tgt := 67) X (by decide +kernel) (by decide) c17 ?_
      refine g_iconst (n := 0) (x := (0 : Int32)) X (by decide +kernel) (by decide) ?_
      exact hJ
    · rw [if_neg c17] at hJ
      refine g_if_eq_f (off := 15) (tgt := 67) X (by decide +kernel) (by decide) c17 ?_
      refine g_iload (n := 4) X (by decide +kernel) 4 rfl ?_
      refine g_sipush (n := 19683) (x := (19683 : Int32)) X (by decide +kernel) (by decide) ?_
      by_cases c18 : (19683 : Int32) ≤ x4_13
      · rw [if_pos c18] at hJ
        refine g_icmp_ge_t (off := 7) (tgt := 67) X (by decide +kernel) (by decide) c18 ?_
        refine g_iconst (n := 0) (x := (0 : Int32)) X (by decide +kernel) (by decide) ?_
        exact hJ
      · rw [if_neg c18] at hJ
        refine g_icmp_ge_f (off := 7) (tgt := 67) X (by decide +kernel) (by decide) c18 ?_
        refine g_iconst (n := 1) (x := (1 : Int32)) X (by decide +kernel) (by decide) ?_
        refine g_goto (off := 4) (tgt := 68) X (by decide +kernel) (by decide) ?_
        exact hJ
-- Course.drawWait
def f10_drawWait_L17 (K : Ly) (n : Nat) (x0 : Nat) (x1 : Int32) (x2 : Int32)   : Nat → Int32 → Hp → Option Hp
  | 0, _, _ => none
  | k + 1, x3, h =>
    if x1 ≤ x3 then (
    some h)
    else (
    if (99 : Int32) < x2 then (
    some h)
    else (
    bp (f10_passMinute K n x0 h) fun h9 =>
    lt (x3 + (1 : Int32)) fun x3_10 =>
    f10_drawWait_L17 K n x0 x1 x2  k x3_10 h9))
def f10_drawWait (K : Ly) (n : Nat) (o : Nat) (h : Hp) : Option Hp :=
    bd (f10_below K n o (5 : Int32) h) fun y3 h2 =>
    lt ((1 : Int32) + y3) fun x1_4 =>
    lt ((h2.1 o 2) + x1_4) fun x2_5 =>
    f10_drawWait_L17 K n o x1_4 x2_5 n (0 : Int32) h2
set_option maxHeartbeats 4000000 in
set_option maxRecDepth 20000 in
theorem w10_drawWait_L17 {Γ : CT} {sp : Sp} {K : Ly} {sz n : Nat} {hf : Hp}  (X : Ok Γ sp prog_2_method_8_code Rc10 4 none 6 none sz K hf) (hK : LyOk K) (x0 : Nat) (x1 : Int32) (x2 : Int32)  (px0 : K x0 = some (.inl 10))  : ∀ (k : Nat) (x3 : Int32) (h : Hp), f10_drawWait_L17 K n x0 x1 x2  k x3 h = some hf → Go Γ (0, 0) 17 [(0, .ref x0), (1, .int x1), (2, .int x2), (3, .int x3)] [] sz K h := by
  intro k
  induction k with
  | zero => intro x3 h E; cases E
  | succ k ih =>
    intro x3 h E
    unfold f10_drawWait_L17 at E
    refine g_iload_n (n := 3) X (by decide +kernel) 3 rfl ?_
    refine g_iload_n (n := 1) X (by decide +kernel) 1 rfl ?_
    rcases it_E E with ⟨c6, E⟩ | ⟨c6, E⟩
    · refine g_icmp_ge_t (off := 19) (tgt := 38) X (by decide +kernel) (by decide) c6 ?_
      obtain rfl := Option.some.inj E
      exact g_return X (by decide +kernel)
    · refine g_icmp_ge_f (off := 19) (tgt := 38) X (by decide +kernel) (by decide) c6 ?_
      refine g_iload_n (n := 2) X (by decide +kernel) 2 rfl ?_
      refine g_bipush (n := 99) (x := (99 : Int32)) X (by decide +kernel) (by decide) ?_
      rcases it_E E with ⟨c7, E⟩ | ⟨c7, E⟩
      · refine g_icmp_gt_t (off := 13) (tgt := 38) X (by decide +kernel) (by decide) c7 ?_
        obtain rfl := Option.some.inj E
        exact g_return X (by decide +kernel)
      · refine g_icmp_gt_f (off := 13) (tgt := 38) X (by decide +kernel) (by decide) c7 ?_
        refine g_aload_n (n := 0) X (by decide +kernel) 0 rfl ?_
        obtain ⟨h9, e8, E⟩ := bp_E E
        refine g_callV0 (st := []) X [] (by decide +kernel) ml10_134 px0 rfl rfl (by decide) (Nat.le_of_ble_eq_true rfl) (c10_passMinute hK x0 h px0 e8) ?_
        obtain ⟨x3_10, ex3_10, E⟩ := lt_E E
        refine s_iinc (i := 3) (n := 1) (y := x3_10) X (by decide +kernel) 3 rfl (by decide) ex3_10 (ls_next (by decide) (Or.inr rfl) (ls_next (by decide) (Or.inr rfl) (ls_next (by decide) (Or.inr rfl) (ls_here ls_end)))) ?_
        refine g_goto (off := -18) (tgt := 17) X (by decide +kernel) (by decide) ?_
        exact ih x3_10 h9  E
set_option maxHeartbeats 4000000 in
set_option maxRecDepth 20000 in
theorem c10_drawWait {sp : Sp} {K : Ly} {sz n : Nat} (hK : LyOk K) (o : Nat) (h : Hp) (ho : K o = some (.inl 10)) {hf : Hp} (E : f10_drawWait K n o h = some hf) : Con sp y10_drawWait prog_2_method_8_code 4 none 6 0 0 [.ref o] sz K h none sz K hf := by
  refine Con.of (by decide) (Nat.le_of_ble_eq_true rfl) (fun Γ X _ => ?_)
  show Go Γ (0, 0) 0 [(0, .ref o)] [] sz K h
  unfold f10_drawWait at E
  refine g_iconst (n := 1) (x := (1 : Int32)) X (by decide +kernel) (by decide) ?_
  refine g_aload_n (n := 0) X (by decide +kernel) 0 rfl ?_
  refine g_iconst (n := 5) (x := (5 : Int32)) X (by decide +kernel) (by decide) ?_
  obtain ⟨y3, h2, e1, E⟩ := bd_E E
  refine g_callV1 (st := [.int (1 : Int32)]) X [.int (5 : Int32)] (by decide +kernel) ml10_140 ho rfl rfl (by decide) (Nat.le_of_ble_eq_true rfl) (c10_below hK o (5 : Int32) h ho e1) ?_
  refine g_iadd X (by decide +kernel) ?_
  obtain ⟨x1_4, ex1_4, E⟩ := lt_E E
  refine s_istore_n (n := 1) (i := 1) X (by decide +kernel) rfl (by decide) ex1_4 (ls_next (by decide) (Or.inr rfl) (ls_ins ls_end)) ?_
  refine g_aload_n (n := 0) X (by decide +kernel) 0 rfl ?_
  refine g_getI X (by decide +kernel) fl10_22 ho ?_
  refine g_iload_n (n := 1) X (by decide +kernel) 1 rfl ?_
  refine g_iadd X (by decide +kernel) ?_
  obtain ⟨x2_5, ex2_5, E⟩ := lt_E E
  refine s_istore_n (n := 2) (i := 2) X (by decide +kernel) rfl (by decide) ex2_5 (ls_next (by decide) (Or.inr rfl) (ls_next (by decide) (Or.inr rfl) (ls_ins ls_end))) ?_
  refine g_iconst (n := 0) (x := (0 : Int32)) X (by decide +kernel) (by decide) ?_
  refine s_istore_n (n := 3) (i := 3) X (by decide +kernel) rfl (by decide) rfl (ls_next (by decide) (Or.inr rfl) (ls_next (by decide) (Or.inr rfl) (ls_next (by decide) (Or.inr rfl) (ls_ins ls_end)))) ?_
  exact w10_drawWait_L17 X hK o x1_4 x2_5 ho n (0 : Int32) h2 E
-- Course.draw
def f10_draw_J48 (K : Ly) (n : Nat) (r14 : Int32 → Hp → Option Hp) (x0 : Nat) (x3 : Int32) (x4 : Int32) (s0 : Nat) (s1 : Int32) (s2 : Int32) (h : Hp) : Option Hp :=
    bp (f10_drawAsk K n s0 s1 s2 h) fun h24 =>
    lt (x4 + (1 : Int32)) fun x4_25 =>
    r14 x4_25 h24
def f10_draw_L14 (K : Ly) (n : Nat) (x0 : Nat) (x3 : Int32)   : Nat → Int32 → Hp → Option Hp
  | 0, _, _ => none
  | k + 1, x4, h =>
    if x3 ≤ x4 then (
    some h)
    else (
    bd (f10_below K n x0 (10 : Int32) h) fun y7 h6 =>
    if (4 : Int32) < y7 then (
    if (8 : Int32) < y7 then (
    ob (h6.2.2 x0 0) K 2 fun o10 =>
    if (h6.1 o10 2) ≤ 0 then (
    lt (x4 + (1 : Int32)) fun x4_12 =>
    f10_draw_L14 K n x0 x3  k x4_12 h6)
    else (
    ob (h6.2.2 x0 0) K 2 fun o13 =>
    bd (f10_below K n x0 (h6.1 o13 2) h6) fun y16 h15 =>
    lt (sI h15 x0 3 ((h6.1 x0 3) ^^^ ((1 : Int32) <<< (y16 &&& 31)))) fun h17 =>
    lt (x4 + (1 : Int32)) fun x4_18 =>
    f10_draw_L14 K n x0 x3  k x4_18 h17))
    else (
    bp (f10_drawWait K n x0 h6) fun h20 =>
    lt (x4 + (1 : Int32)) fun x4_21 =>
    f10_draw_L14 K n x0 x3  k x4_21 h20))
    else (
    f10_draw_J48 K n (f10_draw_L14 K n x0 x3  k) x0 x3 x4 x0 x4 (if y7 = (4 : Int32) then (1 : Int32) else (0 : Int32)) h6))
def f10_draw (K : Ly) (n : Nat) (o : Nat) (a1 : Nat) (a2 : Int32) (a3 : Int32) (h : Hp) : Option Hp :=
    bp (f10_begin K n o a1 (-1 : Int32) h) fun h2 =>
    lt (sI h2 o 4 a2) fun h3 =>
    f10_draw_L14 K n o a3 n (0 : Int32) h3
set_option maxHeartbeats 4000000 in
set_option maxRecDepth 20000 in
theorem w10_draw_J48 {Γ : CT} {sp : Sp} {K : Ly} {sz n : Nat} {hf : Hp}  {r14 : Int32 → Hp → Option Hp}  (X : Ok Γ sp prog_2_method_6_code Rc10 6 none 7 none sz K hf) (hK : LyOk K) (x0 : Nat) (x3 : Int32) (x4 : Int32) (s0 : Nat) (s1 : Int32) (s2 : Int32) (h : Hp) (hr14 : ∀ (x4 : Int32) (h : Hp), r14 x4 h = some hf → Go Γ (0, 0) 14 [(0, .ref x0), (3, .int x3), (4, .int x4)] [] sz K h) (px0 : K x0 = some (.inl 10)) (ps0 : K s0 = some (.inl 10)) (E : f10_draw_J48 K n r14 x0 x3 x4 s0 s1 s2 h = some hf) : Go Γ (0, 0) 48 [(0, .ref x0), (3, .int x3), (4, .int x4)] [.int s2, .int s1, .ref s0] sz K h := by
  unfold f10_draw_J48 at E
  obtain ⟨h24, e23, E⟩ := bp_E E
  refine g_callV0 (st := []) X [.int s1, .int s2] (by decide +kernel) ml10_144 ps0 rfl rfl (by decide) (Nat.le_of_ble_eq_true rfl) (c10_drawAsk hK s0 s1 s2 h ps0 e23) ?_
  refine g_goto (off := 49) (tgt := 100) X (by decide +kernel) (by decide) ?_
  obtain ⟨x4_25, ex4_25, E⟩ := lt_E E
  refine s_iinc (i := 4) (n := 1) (y := x4_25) X (by decide +kernel) 2 rfl (by decide) ex4_25 (ls_next (by decide) (Or.inr rfl) (ls_next (by decide) (Or.inr rfl) (ls_here ls_end))) ?_
  refine g_goto (off := -89) (tgt := 14) X (by decide +kernel) (by decide) ?_
  exact hr14 x4_25 h24  E
set_option maxHeartbeats 4000000 in
set_option maxRecDepth 20000 in
theorem w10_draw_L14 {Γ : CT} {sp : Sp} {K : Ly} {sz n : Nat} {hf : Hp}  (X : Ok Γ sp prog_2_method_6_code Rc10 6 none 7 none sz K hf) (hK : LyOk K) (x0 : Nat) (x3 : Int32)  (px0 : K x0 = some (.inl 10))  : ∀ (k : Nat) (x4 : Int32) (h : Hp), f10_draw_L14 K n x0 x3  k x4 h = some hf → Go Γ (0, 0) 14 [(0, .ref x0), (3, .int x3), (4, .int x4)] [] sz K h := by
  intro k
  induction k with
  | zero => intro x4 h E; cases E
  | succ k ih =>
    intro x4 h E
    unfold f10_draw_L14 at E
    refine g_iload (n := 4) X (by decide +kernel) 2 rfl ?_
    refine g_iload_n (n := 3) X (by decide +kernel) 1 rfl ?_
    rcases it_E E with ⟨c4, E⟩ | ⟨c4, E⟩
    · refine g_icmp_ge_t (off := 89) (tgt := 106) X (by decide +kernel) (by decide) c4 ?_
      obtain rfl := Option.some.inj E
      exact g_return X (by decide +kernel)
    · refine g_icmp_ge_f (off := 89) (tgt := 106) X (by decide +kernel) (by decide) c4 ?_
      refine g_aload_n (n := 0) X (by decide +kernel) 0 rfl ?_
      refine g_bipush (n := 10) (x := (10 : Int32)) X (by decide +kernel) (by decide) ?_
      obtain ⟨y7, h6, e5, E⟩ := bd_E E
      refine g_callV1 (st := []) X [.int (10 : Int32)] (by decide +kernel) ml10_140 px0 rfl rfl (by decide) (Nat.le_of_ble_eq_true rfl) (c10_below hK x0 (10 : Int32) h px0 e5) ?_
      refine s_istore (i := 5) X (by decide +kernel) (by decide) rfl (ls_next (by decide) (Or.inr rfl) (ls_next (by decide) (Or.inr rfl) (ls_next (by decide) (Or.inr rfl) (ls_ins ls_end)))) ?_
      refine g_iload (n := 5) X (by decide +kernel) 3 rfl ?_
      refine g_iconst (n := 4) (x := (4 : Int32)) X (by decide +kernel) (by decide) ?_
      rcases it_E E with ⟨c8, E⟩ | ⟨c8, E⟩
      · refine g_icmp_gt_t (off := 23) (tgt := 54) X (by decide +kernel) (by decide) c8 ?_
        refine g_iload (n := 5) X (by decide +kernel) 3 rfl ?_
        refine g_bipush (n := 8) (x := (8 : Int32)) X (by decide +kernel) (by decide) ?_
        rcases it_E E with ⟨c9, E⟩ | ⟨c9, E⟩
        · refine g_icmp_gt_t (off := 10) (tgt := 68) X (by decide +kernel) (by decide) c9 ?_
          refine g_aload_n (n := 0) X (by decide +kernel) 0 rfl ?_
          obtain ⟨o10, qo10, po10, E⟩ := ob_E E
          refine g_getR X (by decide +kernel) fl10_12 px0 qo10 ?_
          refine g_getI X (by decide +kernel) fl10_151 po10 ?_
          rcases it_E E with ⟨c11, E⟩ | ⟨c11, E⟩
          · refine g_if_le_t (off := 25) (tgt := 100) X (by decide +kernel) (by decide) c11 ?_
            obtain ⟨x4_12, ex4_12, E⟩ := lt_E E
            refine s_iinc (i := 4) (n := 1) (y := x4_12) X (by decide +kernel) 2 rfl (by decide) ex4_12 (ls_next (by decide) (Or.inr rfl) (ls_next (by decide) (Or.inr rfl) (ls_here (ls_next (by decide) (Or.inr rfl) ls_end)))) ?_
            refine g_goto (off := -89) (tgt := 14) X (by decide +kernel) (by decide) ?_
            refine g_sub [0, 1, 2] rfl ?_
            exact ih x4_12 h6  E
          · refine g_if_le_f (off := 25) (tgt := 100) X (by decide +kernel) (by decide) c11 ?_
            refine g_aload_n (n := 0) X (by decide +kernel) 0 rfl ?_
            refine g_dup X (by decide +kernel) rfl ?_
            refine g_getI X (by decide +kernel) fl10_25 px0 ?_
            refine g_iconst (n := 1) (x := (1 : Int32)) X (by decide +kernel) (by decide) ?_
            refine g_aload_n (n := 0) X (by decide +kernel) 0 rfl ?_
            refine g_aload_n (n := 0) X (by decide +kernel) 0 rfl ?_
            obtain ⟨o13, qo13, po13, E⟩ := ob_E E
            refine g_getR X (by decide +kernel) fl10_12 px0 qo13 ?_
            refine g_getI X (by decide +kernel) fl10_151 po13 ?_
            obtain ⟨y16, h15, e14, E⟩ := bd_E E
            refine g_callV1 (st := [.int (1 : Int32), .int (h6.1 x0 3), .ref x0]) X [.int (h6.1 o13 2)] (by decide +kernel) ml10_140 px0 rfl rfl (by decide) (Nat.le_of_ble_eq_true rfl) (c10_below hK x0 (h6.1 o13 2) h6 px0 e14) ?_
            refine g_ishl X (by decide +kernel) ?_
            refine g_ixor X (by decide +kernel) ?_
            obtain ⟨h17, eh17, E⟩ := lt_E E
            refine g_putI X (by decide +kernel) fp10_25 px0 eh17 ?_
            obtain ⟨x4_18, ex4_18, E⟩ := lt_E E
            refine s_iinc (i := 4) (n := 1) (y := x4_18) X (by decide +kernel) 2 rfl (by decide) ex4_18 (ls_next (by decide) (Or.inr rfl) (ls_next (by decide) (Or.inr rfl) (ls_here (ls_next (by decide) (Or.inr rfl) ls_end)))) ?_
            refine g_goto (off := -89) (tgt := 14) X (by decide +kernel) (by decide) ?_
            refine g_sub [0, 1, 2] rfl ?_
            exact ih x4_18 h17  E
        · refine g_icmp_gt_f (off := 10) (tgt := 68) X (by decide +kernel) (by decide) c9 ?_
          refine g_aload_n (n := 0) X (by decide +kernel) 0 rfl ?_
          obtain ⟨h20, e19, E⟩ := bp_E E
          refine g_callV0 (st := []) X [] (by decide +kernel) ml10_148 px0 rfl rfl (by decide) (Nat.le_of_ble_eq_true rfl) (c10_drawWait hK x0 h6 px0 e19) ?_
          refine g_goto (off := 35) (tgt := 100) X (by decide +kernel) (by decide) ?_
          obtain ⟨x4_21, ex4_21, E⟩ := lt_E E
          refine s_iinc (i := 4) (n := 1) (y := x4_21) X (by decide +kernel) 2 rfl (by decide) ex4_21 (ls_next (by decide) (Or.inr rfl) (ls_next (by decide) (Or.inr rfl) (ls_here (ls_next (by decide) (Or.inr rfl) ls_end)))) ?_
          refine g_goto (off := -89) (tgt := 14) X (by decide +kernel) (by decide) ?_
          refine g_sub [0, 1, 2] rfl ?_
          exact ih x4_21 h20  E
      · refine g_icmp_gt_f (off := 23) (tgt := 54) X (by decide +kernel) (by decide) c8 ?_
        refine g_aload_n (n := 0) X (by decide +kernel) 0 rfl ?_
        refine g_iload (n := 4) X (by decide +kernel) 2 rfl ?_
        refine g_iload (n := 5) X (by decide +kernel) 3 rfl ?_
        refine g_iconst (n := 4) (x := (4 : Int32)) X (by decide +kernel) (by decide) ?_
        have hJ : Go Γ (0, 0) 48 [(0, .ref x0), (3, .int x3), (4, .int x4)] [.int (if y7 = (4 : Int32) then (1 : Int32) else (0 : Int32)), .int x4, .ref x0] sz K h6 := by
          exact w10_draw_J48 X hK x0 x3 x4 x0 x4 (if y7 = (4 : Int32) then (1 : Int32) else (0 : Int32)) h6 ih px0 px0 E
        clear E
        by_cases c22 : y7 = (4 : Int32)
        · rw [if_pos c22] at hJ
          refine g_icmp_ne_f (off := 7) (tgt := 47) X (by decide +kernel) (by decide) (fun z => z c22) ?_
          refine g_iconst (n := 1) (x := (1 : Int32)) X (by decide +kernel) (by decide) ?_
          refine g_goto (off := 4) (tgt := 48) X (by decide +kernel) (by decide) ?_
          refine g_sub [0, 1, 2] rfl ?_
          exact hJ
        · rw [if_neg c22] at hJ
          refine g_icmp_ne_t (off := 7) (tgt := 47) X (by decide +kernel) (by decide) c22 ?_
          refine g_iconst (n := 0) (x := (0 : Int32)) X (by decide +kernel) (by decide) ?_
          refine g_sub [0, 1, 2] rfl ?_
          exact hJ
set_option maxHeartbeats 4000000 in
set_option maxRecDepth 20000 in
theorem c10_draw {sp : Sp} {K : Ly} {sz n : Nat} (hK : LyOk K) (o : Nat) (a1 : Nat) (a2 : Int32) (a3 : Int32) (h : Hp) (ho : K o = some (.inl 10)) (ha1 : K a1 = some (.inl 2)) {hf : Hp} (E : f10_draw K n o a1 a2 a3 h = some hf) : Con sp y10_draw prog_2_method_6_code 6 none 7 0 0 [.ref o, .ref a1, .int a2, .int a3] sz K h none sz K hf := by
  refine Con.of (by decide) (Nat.le_of_ble_eq_true rfl) (fun Γ X _ => ?_)
  show Go Γ (0, 0) 0 [(0, .ref o), (1, .ref a1), (2, .int a2), (3, .int a3)] [] sz K h
  unfold f10_draw at E
  refine g_aload_n (n := 0) X (by decide +kernel) 0 rfl ?_
  refine g_aload_n (n := 1) X (by decide +kernel) 1 rfl ?_
  refine g_iconst (n := -1) (x := (-1 : Int32)) X (by decide +kernel) (by decide) ?_
  obtain ⟨h2, e1, E⟩ := bp_E E
  refine g_callV0 (st := []) X [.ref a1, .int (-1 : Int32)] (by decide +kernel) ml10_95 ho rfl rfl (by decide) (Nat.le_of_ble_eq_true rfl) (c10_begin hK o a1 (-1 : Int32) h ho ha1 e1) ?_
  refine g_aload_n (n := 0) X (by decide +kernel) 0 rfl ?_
  refine g_iload_n (n := 2) X (by decide +kernel) 2 rfl ?_
  obtain ⟨h3, eh3, E⟩ := lt_E E
  refine g_putI X (by decide +kernel) fp10_28 ho eh3 ?_
  refine g_iconst (n := 0) (x := (0 : Int32)) X (by decide +kernel) (by decide) ?_
  refine s_istore (i := 4) X (by decide +kernel) (by decide) rfl (ls_next (by decide) (Or.inr rfl) (ls_next (by decide) (Or.inr rfl) (ls_next (by decide) (Or.inr rfl) (ls_next (by decide) (Or.inr rfl) (ls_ins ls_end))))) ?_
  refine g_sub [0, 3, 4] rfl ?_
  exact w10_draw_L14 X hK o a3 ho n (0 : Int32) h3 E
