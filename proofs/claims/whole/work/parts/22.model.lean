-- AskedNamesModel.moves
def f11_moves (K : Ly) (n : Nat) (o : Nat) (a1 : Int32) (a2 : Int32) (h : Hp) : Option Hp :=
    gd (inb a1 4096) <|
    gd (inb a2 4096) <|
    lt (sI h (o + 29) a2.toNatClampNeg (h.1 (o + 29) a1.toNatClampNeg)) fun h3 =>
    gd (inb a1 4096) <|
    gd (inb a2 4096) <|
    lt (sI h3 (o + 30) a2.toNatClampNeg (h3.1 (o + 30) a1.toNatClampNeg)) fun h6 =>
    gd (inb a1 4096) <|
    gd (inb a2 4096) <|
    lt (sI h6 (o + 31) a2.toNatClampNeg (h6.1 (o + 31) a1.toNatClampNeg)) fun h9 =>
    gd (inb a1 4096) <|
    gd (inb a2 4096) <|
    lt (sI h9 (o + 32) a2.toNatClampNeg (h9.1 (o + 32) a1.toNatClampNeg)) fun h12 =>
    gd (inb a1 4096) <|
    gd (inb a2 4096) <|
    lt (sI h12 (o + 33) a2.toNatClampNeg (h12.1 (o + 33) a1.toNatClampNeg)) fun h15 =>
    gd (inb a1 4096) <|
    gd (inb a2 4096) <|
    lt (sI h15 (o + 34) a2.toNatClampNeg (h15.1 (o + 34) a1.toNatClampNeg)) fun h18 =>
    gd (inb a1 4096) <|
    gd (inb a2 4096) <|
    lt (sI h18 (o + 35) a2.toNatClampNeg (h18.1 (o + 35) a1.toNatClampNeg)) fun h21 =>
    gd (inb a1 4096) <|
    gd (inb a2 4096) <|
    lt (sI h21 (o + 36) a2.toNatClampNeg (h21.1 (o + 36) a1.toNatClampNeg)) fun h24 =>
    gd (inb a1 4096) <|
    gd (inb a2 4096) <|
    lt (sI h24 (o + 37) a2.toNatClampNeg (h24.1 (o + 37) a1.toNatClampNeg)) fun h27 =>
    gd (inb a1 4096) <|
    gd (inb a2 4096) <|
    lt (sI h27 (o + 38) a2.toNatClampNeg (h27.1 (o + 38) a1.toNatClampNeg)) fun h30 =>
    gd (inb a1 4096) <|
    gd (inb a2 4096) <|
    lt (sI h30 (o + 39) a2.toNatClampNeg (h30.1 (o + 39) a1.toNatClampNeg)) fun h33 =>
    some h33
set_option maxHeartbeats 4000000 in
set_option maxRecDepth 20000 in
theorem c11_moves {sp : Sp} {K : Ly} {sz n : Nat} (hK : LyOk K) (o : Nat) (a1 : Int32) (a2 : Int32) (h : Hp) (ho : K o = some (.inl 11)) {hf : Hp} (E : f11_moves K n o a1 a2 h = some hf) : Con sp y11_moves prog_13_method_81_code 3 none 1 0 0 [.ref o, .int a1, .int a2] sz K h none sz K hf := by
  refine Con.of (by decide) (Nat.le_of_ble_eq_true rfl) (fun Γ X _ => ?_)
  show Go Γ (0, 0) 0 [(0, .ref o), (1, .int a1), (2, .int a2)] [] sz K h
  unfold f11_moves at E
  refine g_aload_n (n := 0) X (by decide +kernel) 0 rfl ?_
  refine g_getS X (by decide +kernel) fl11_96 ho ?_
  refine g_iload_n (n := 2) X (by decide +kernel) 2 rfl ?_
  refine g_aload_n (n := 0) X (by decide +kernel) 0 rfl ?_
  refine g_getS X (by decide +kernel) fl11_96 ho ?_
  refine g_iload_n (n := 1) X (by decide +kernel) 1 rfl ?_
  obtain ⟨c1, E⟩ := gd_E E
  refine g_iald X (by decide +kernel) (ly hK ho fl11_96 rfl) c1 ?_
  obtain ⟨c2, E⟩ := gd_E E
  obtain ⟨h3, eh3, E⟩ := lt_E E
  refine g_iast X (by decide +kernel) (ly hK ho fl11_96 rfl) c2 eh3 ?_
  refine g_aload_n (n := 0) X (by decide +kernel) 0 rfl ?_
  refine g_getS X (by decide +kernel) fl11_99 ho ?_
  refine g_iload_n (n := 2) X (by decide +kernel) 2 rfl ?_
  refine g_aload_n (n := 0) X (by decide +kernel) 0 rfl ?_
  refine g_getS X (by decide +kernel) fl11_99 ho ?_
  refine g_iload_n (n := 1) X (by decide +kernel) 1 rfl ?_
  obtain ⟨c4, E⟩ := gd_E E
  refine g_iald X (by decide +kernel) (ly hK ho fl11_99 rfl) c4 ?_
  obtain ⟨c5, E⟩ := gd_E E
  obtain ⟨h6, eh6, E⟩ := lt_E E
  refine g_iast X (by decide +kernel) (ly hK ho fl11_99 rfl) c5 eh6 ?_
  refine g_aload_n (n := 0) X (by decide +kernel) 0 rfl ?_
  refine g_getS X (by decide +kernel) fl11_102 ho ?_
  refine g_iload_n (n := 2) X (by decide +kernel) 2 rfl ?_
  refine g_aload_n (n := 0) X (by decide +kernel) 0 rfl ?_
  refine g_getS X (by decide +kernel) fl11_102 ho ?_
  refine g_iload_n (n := 1) X (by decide +kernel) 1 rfl ?_
  obtain ⟨c7, E⟩ := gd_E E
  refine g_iald X (by decide +kernel) (ly hK ho fl11_102 rfl) c7 ?_
  obtain ⟨c8, E⟩ := gd_E E
  obtain ⟨h9, eh9, E⟩ := lt_E E
  refine g_iast X (by decide +kernel) (ly hK ho fl11_102 rfl) c8 eh9 ?_
  refine g_aload_n (n := 0) X (by decide +kernel) 0 rfl ?_
  refine g_getS X (by decide +kernel) fl11_105 ho ?_
  refine g_iload_n (n := 2) X (by decide +kernel) 2 rfl ?_
  refine g_aload_n (n := 0) X (by decide +kernel) 0 rfl ?_
  refine g_getS X (by decide +kernel) fl11_105 ho ?_
  refine g_iload_n (n := 1) X (by decide +kernel) 1 rfl ?_
  obtain ⟨c10, E⟩ := gd_E E
  refine g_iald X (by decide +kernel) (ly hK ho fl11_105 rfl) c10 ?_
  obtain ⟨c11, E⟩ := gd_E E
  obtain ⟨h12, eh12, E⟩ := lt_E E
  refine g_iast X (by decide +kernel) (ly hK ho fl11_105 rfl) c11 eh12 ?_
  refine g_aload_n (n := 0) X (by decide +kernel) 0 rfl ?_
  refine g_getS X (by decide +kernel) fl11_108 ho ?_
  refine g_iload_n (n := 2) X (by decide +kernel) 2 rfl ?_
  refine g_aload_n (n := 0) X (by decide +kernel) 0 rfl ?_
  refine g_getS X (by decide +kernel) fl11_108 ho ?_
  refine g_iload_n (n := 1) X (by decide +kernel) 1 rfl ?_
  obtain ⟨c13, E⟩ := gd_E E
  refine g_iald X (by decide +kernel) (ly hK ho fl11_108 rfl) c13 ?_
  obtain ⟨c14, E⟩ := gd_E E
  obtain ⟨h15, eh15, E⟩ := lt_E E
  refine g_iast X (by decide +kernel) (ly hK ho fl11_108 rfl) c14 eh15 ?_
  refine g_aload_n (n := 0) X (by decide +kernel) 0 rfl ?_
  refine g_getS X (by decide +kernel) fl11_111 ho ?_
  refine g_iload_n (n := 2) X (by decide +kernel) 2 rfl ?_
  refine g_aload_n (n := 0) X (by decide +kernel) 0 rfl ?_
  refine g_getS X (by decide +kernel) fl11_111 ho ?_
  refine g_iload_n (n := 1) X (by decide +kernel) 1 rfl ?_
  obtain ⟨c16, E⟩ := gd_E E
  refine g_iald X (by decide +kernel) (ly hK ho fl11_111 rfl) c16 ?_
  obtain ⟨c17, E⟩ := gd_E E
  obtain ⟨h18, eh18, E⟩ := lt_E E
  refine g_iast X (by decide +kernel) (ly hK ho fl11_111 rfl) c17 eh18 ?_
  refine g_aload_n (n := 0) X (by decide +kernel) 0 rfl ?_
  refine g_getS X (by decide +kernel) fl11_114 ho ?_
  refine g_iload_n (n := 2) X (by decide +kernel) 2 rfl ?_
  refine g_aload_n (n := 0) X (by decide +kernel) 0 rfl ?_
  refine g_getS X (by decide +kernel) fl11_114 ho ?_
  refine g_iload_n (n := 1) X (by decide +kernel) 1 rfl ?_
  obtain ⟨c19, E⟩ := gd_E E
  refine g_iald X (by decide +kernel) (ly hK ho fl11_114 rfl) c19 ?_
  obtain ⟨c20, E⟩ := gd_E E
  obtain ⟨h21, eh21, E⟩ := lt_E E
  refine g_iast X (by decide +kernel) (ly hK ho fl11_114 rfl) c20 eh21 ?_
  refine g_aload_n (n := 0) X (by decide +kernel) 0 rfl ?_
  refine g_getS X (by decide +kernel) fl11_117 ho ?_
  refine g_iload_n (n := 2) X (by decide +kernel) 2 rfl ?_
  refine g_aload_n (n := 0) X (by decide +kernel) 0 rfl ?_
  refine g_getS X (by decide +kernel) fl11_117 ho ?_
  refine g_iload_n (n := 1) X (by decide +kernel) 1 rfl ?_
  obtain ⟨c22, E⟩ := gd_E E
  refine g_iald X (by decide +kernel) (ly hK ho fl11_117 rfl) c22 ?_
  obtain ⟨c23, E⟩ := gd_E E
  obtain ⟨h24, eh24, E⟩ := lt_E E
  refine g_iast X (by decide +kernel) (ly hK ho fl11_117 rfl) c23 eh24 ?_
  refine g_aload_n (n := 0) X (by decide +kernel) 0 rfl ?_
  refine g_getS X (by decide +kernel) fl11_120 ho ?_
  refine g_iload_n (n := 2) X (by decide +kernel) 2 rfl ?_
  refine g_aload_n (n := 0) X (by decide +kernel) 0 rfl ?_
  refine g_getS X (by decide +kernel) fl11_120 ho ?_
  refine g_iload_n (n := 1) X (by decide +kernel) 1 rfl ?_
  obtain ⟨c25, E⟩ := gd_E E
  refine g_iald X (by decide +kernel) (ly hK ho fl11_120 rfl) c25 ?_
  obtain ⟨c26, E⟩ := gd_E E
  obtain ⟨h27, eh27, E⟩ := lt_E E
  refine g_iast X (by decide +kernel) (ly hK ho fl11_120 rfl) c26 eh27 ?_
  refine g_aload_n (n := 0) X (by decide +kernel) 0 rfl ?_
  refine g_getS X (by decide +kernel) fl11_123 ho ?_
  refine g_iload_n (n := 2) X (by decide +kernel) 2 rfl ?_
  refine g_aload_n (n := 0) X (by decide +kernel) 0 rfl ?_
  refine g_getS X (by decide +kernel) fl11_123 ho ?_
  refine g_iload_n (n := 1) X (by decide +kernel) 1 rfl ?_
  obtain ⟨c28, E⟩ := gd_E E
  refine g_iald X (by decide +kernel) (ly hK ho fl11_123 rfl) c28 ?_
  obtain ⟨c29, E⟩ := gd_E E
  obtain ⟨h30, eh30, E⟩ := lt_E E
  refine g_iast X (by decide +kernel) (ly hK ho fl11_123 rfl) c29 eh30 ?_
  refine g_aload_n (n := 0) X (by decide +kernel) 0 rfl ?_
  refine g_getS X (by decide +kernel) fl11_126 ho ?_
  refine g_iload_n (n := 2) X (by decide +kernel) 2 rfl ?_
  refine g_aload_n (n := 0) X (by decide +kernel) 0 rfl ?_
  refine g_getS X (by decide +kernel) fl11_126 ho ?_
  refine g_iload_n (n := 1) X (by decide +kernel) 1 rfl ?_
  obtain ⟨c31, E⟩ := gd_E E
  refine g_iald X (by decide +kernel) (ly hK ho fl11_126 rfl) c31 ?_
  obtain ⟨c32, E⟩ := gd_E E
  obtain ⟨h33, eh33, E⟩ := lt_E E
  refine g_iast X (by decide +kernel) (ly hK ho fl11_126 rfl) c32 eh33 ?_
  obtain rfl := Option.some.inj E
  exact g_return X (by decide +kernel)
-- AskedNamesModel.goesBy
def f11_goesBy_L54 (K : Ly) (n : Nat) (x0 : Nat)   : Nat → Int32 → Int32 → Hp → Option Hp
  | 0, _, _, _ => none
  | k + 1, x2, x3, h =>
    if (h.1 x0 45) ≤ x3 then (
    lt (sI h x0 45 x2) fun h13 =>
    some h13)
    else (
    gd (inb x3 4096) <|
    if (h.1 (x0 + 35) x3.toNatClampNeg) ≤ (h.1 x0 27) then (
    lt (x3 + (1 : Int32)) fun x3_16 =>
    f11_goesBy_L54 K n x0  k x2 x3_16 h)
    else (
    bp (f11_moves K n x0 x3 x2 h) fun h18 =>
    lt (x2 + (1 : Int32)) fun x2_19 =>
    lt (x3 + (1 : Int32)) fun x3_20 =>
    f11_goesBy_L54 K n x0  k x2_19 x3_20 h18))
def f11_goesBy_L21 (K : Ly) (n : Nat) (x0 : Nat) (x1 : Int32)   : Nat → Int32 → Hp → Option Hp
  | 0, _, _ => none
  | k + 1, x2, h =>
    if x1 ≤ x2 then (
    f11_goesBy_L54 K n x0 n (0 : Int32) (0 : Int32) h)
    else (
    gd (inb x2 4096) <|
    if (h.1 (x0 + 35) x2.toNatClampNeg) = (h.1 x0 27) then (
    bp (f11_comes K n x0 x2 h) fun h9 =>
    lt (x2 + (1 : Int32)) fun x2_10 =>
    f11_goesBy_L21 K n x0 x1  k x2_10 h9)
    else (
    lt (x2 + (1 : Int32)) fun x2_11 =>
    f11_goesBy_L21 K n x0 x1  k x2_11 h))
def f11_goesBy (K : Ly) (n : Nat) (o : Nat) (h : Hp) : Option Hp :=
    lt (sI h o 27 ((h.1 o 27) + (1 : Int32))) fun h1 =>
    bp (f11_endsAll K n o h1) fun h3 =>
    lt (h3.1 o 45) fun x1_4 =>
    f11_goesBy_L21 K n o x1_4 n (0 : Int32) h3
set_option maxHeartbeats 4000000 in
set_option maxRecDepth 20000 in
theorem w11_goesBy_L54 {Γ : CT} {sp : Sp} {K : Ly} {sz n : Nat} {hf : Hp}  (X : Ok Γ sp prog_13_method_82_code Rc11 4 none 9 none sz K hf) (hK : LyOk K) (x0 : Nat)  (px0 : K x0 = some (.inl 11))  : ∀ (k : Nat) (x2 : Int32) (x3 : Int32) (h : Hp), f11_goesBy_L54 K n x0  k x2 x3 h = some hf → Go Γ (0, 0) 54 [(0, .ref x0), (2, .int x2), (3, .int x3)] [] sz K h := by
  intro k
  induction k with
  | zero => intro x2 x3 h E; cases E
  | succ k ih =>
    intro x2 x3 h E
    unfold f11_goesBy_L54 at E
    refine g_iload_n (n := 3) X (by decide +kernel) 2 rfl ?_
    refine g_aload_n (n := 0) X (by decide +kernel) 0 rfl ?_
    refine g_getI X (by decide +kernel) fl11_387 px0 ?_
    rcases it_E E with ⟨c12, E⟩ | ⟨c12, E⟩
    · refine g_icmp_ge_t (off := 31) (tgt := 90) X (by decide +kernel) (by decide) c12 ?_
      refine g_aload_n (n := 0) X (by decide +kernel) 0 rfl ?_
      refine g_iload_n (n := 2) X (by decide +kernel) 1 rfl ?_
      obtain ⟨h13, eh13, E⟩ := lt_E E
      refine g_putI X (by decide +kernel) fp11_387 px0 eh13 ?_
      obtain rfl := Option.some.inj E
      exact g_return X (by decide +kernel)
    · refine g_icmp_ge_f (off := 31) (tgt := 90) X (by decide +kernel) (by decide) c12 ?_
      refine g_aload_n (n := 0) X (by decide +kernel) 0 rfl ?_
      refine g_getS X (by decide +kernel) fl11_114 px0 ?_
      refine g_iload_n (n := 3) X (by decide +kernel) 2 rfl ?_
      obtain ⟨c14, E⟩ := gd_E E
      refine g_iald X (by decide +kernel) (ly hK px0 fl11_114 rfl) c14 ?_
      refine g_aload_n (n := 0) X (by decide +kernel) 0 rfl ?_
      refine g_getI X (by decide +kernel) fl11_384 px0 ?_
      rcases it_E E with ⟨c15, E⟩ | ⟨c15, E⟩
      · refine g_icmp_le_t (off := 12) (tgt := 84) X (by decide +kernel) (by decide) c15 ?_
        obtain ⟨x3_16, ex3_16, E⟩ := lt_E E
        refine s_iinc (i := 3) (n := 1) (y := x3_16) X (by decide +kernel) 2 rfl (by decide) ex3_16 (ls_next (by decide) (Or.inr rfl) (ls_next (by decide) (Or.inr rfl) (ls_here ls_end))) ?_
        refine g_goto (off := -33) (tgt := 54) X (by decide +kernel) (by decide) ?_
        exact ih x2 x3_16 h  E
      · refine g_icmp_le_f (off := 12) (tgt := 84) X (by decide +kernel) (by decide) c15 ?_
        refine g_aload_n (n := 0) X (by decide +kernel) 0 rfl ?_
        refine g_iload_n (n := 3) X (by decide +kernel) 2 rfl ?_
        refine g_iload_n (n := 2) X (by decide +kernel) 1 rfl ?_
        obtain ⟨h18, e17, E⟩ := bp_E E
        refine g_callV0 (st := []) X [.int x3, .int x2] (by decide +kernel) ml11_512 px0 rfl rfl (by decide) (Nat.le_of_ble_eq_true rfl) (c11_moves hK x0 x3 x2 h px0 e17) ?_
        obtain ⟨x2_19, ex2_19, E⟩ := lt_E E
        refine s_iinc (i := 2) (n := 1) (y := x2_19) X (by decide +kernel) 1 rfl (by decide) ex2_19 (ls_next (by decide) (Or.inr rfl) (ls_here (ls_next (by decide) (Or.inr rfl) ls_end))) ?_
        obtain ⟨x3_20, ex3_20, E⟩ := lt_E E
        refine s_iinc (i := 3) (n := 1) (y := x3_20) X (by decide +kernel) 2 rfl (by decide) ex3_20 (ls_next (by decide) (Or.inr rfl) (ls_next (by decide) (Or.inr rfl) (ls_here ls_end))) ?_
        refine g_goto (off := -33) (tgt := 54) X (by decide +kernel) (by decide) ?_
        exact ih x2_19 x3_20 h18  E
set_option maxHeartbeats 4000000 in
set_option maxRecDepth 20000 in
theorem w11_goesBy_L21 {Γ : CT} {sp : Sp} {K : Ly} {sz n : Nat} {hf : Hp}  (X : Ok Γ sp prog_13_method_82_code Rc11 4 none 9 none sz K hf) (hK : LyOk K) (x0 : Nat) (x1 : Int32)  (px0 : K x0 = some (.inl 11))  : ∀ (k : Nat) (x2 : Int32) (h : Hp), f11_goesBy_L21 K n x0 x1  k x2 h = some hf → Go Γ (0, 0) 21 [(0, .ref x0), (1, .int x1), (2, .int x2)] [] sz K h := by
  intro k
  induction k with
  | zero => intro x2 h E; cases E
  | succ k ih =>
    intro x2 h E
    unfold f11_goesBy_L21 at E
    refine g_iload_n (n := 2) X (by decide +kernel) 2 rfl ?_
    refine g_iload_n (n := 1) X (by decide +kernel) 1 rfl ?_
    rcases it_E E with ⟨c5, E⟩ | ⟨c5, E⟩
    · refine g_icmp_ge_t (off := 27) (tgt := 50) X (by decide +kernel) (by decide) c5 ?_
      refine g_iconst (n := 0) (x := (0 : Int32)) X (by decide +kernel) (by decide) ?_
      refine s_istore_n (n := 2) (i := 2) X (by decide +kernel) rfl (by decide) rfl (ls_next (by decide) (Or.inr rfl) (ls_next (by decide) (Or.inr rfl) (ls_here ls_end))) ?_
      refine g_iconst (n := 0) (x := (0 : Int32)) X (by decide +kernel) (by decide) ?_
      refine s_istore_n (n := 3) (i := 3) X (by decide +kernel) rfl (by decide) rfl (ls_next (by decide) (Or.inr rfl) (ls_next (by decide) (Or.inr rfl) (ls_next (by decide) (Or.inr rfl) (ls_ins ls_end)))) ?_
      refine g_sub [0, 2, 3] rfl ?_
      exact w11_goesBy_L54 X hK x0 px0 n (0 : Int32) (0 : Int32) h E
    · refine g_icmp_ge_f (off := 27) (tgt := 50) X (by decide +kernel) (by decide) c5 ?_
      refine g_aload_n (n := 0) X (by decide +kernel) 0 rfl ?_
      refine g_getS X (by decide +kernel) fl11_114 px0 ?_
      refine g_iload_n (n := 2) X (by decide +kernel) 2 rfl ?_
      obtain ⟨c6, E⟩ := gd_E E
      refine g_iald X (by decide +kernel) (ly hK px0 fl11_114 rfl) c6 ?_
      refine g_aload_n (n := 0) X (by decide +kernel) 0 rfl ?_
      refine g_getI X (by decide +kernel) fl11_384 px0 ?_
      rcases it_E E with ⟨c7, E⟩ | ⟨c7, E⟩
      · refine g_icmp_ne_f (off := 8) (tgt := 44) X (by decide +kernel) (by decide) (fun z => z c7) ?_
        refine g_aload_n (n := 0) X (by decide +kernel) 0 rfl ?_
        refine g_iload_n (n := 2) X (by decide +kernel) 2 rfl ?_
        obtain ⟨h9, e8, E⟩ := bp_E E
        refine g_callV0 (st := []) X [.int x2] (by decide +kernel) ml11_509 px0 rfl rfl (by decide) (Nat.le_of_ble_eq_true rfl) (c11_comes hK x0 x2 h px0 e8) ?_
        obtain ⟨x2_10, ex2_10, E⟩ := lt_E E
        refine s_iinc (i := 2) (n := 1) (y := x2_10) X (by decide +kernel) 2 rfl (by decide) ex2_10 (ls_next (by decide) (Or.inr rfl) (ls_next (by decide) (Or.inr rfl) (ls_here ls_end))) ?_
        refine g_goto (off := -26) (tgt := 21) X (by decide +kernel) (by decide) ?_
        exact ih x2_10 h9  E
      · refine g_icmp_ne_t (off := 8) (tgt := 44) X (by decide +kernel) (by decide) c7 ?_
        obtain ⟨x2_11, ex2_11, E⟩ := lt_E E
        refine s_iinc (i := 2) (n := 1) (y := x2_11) X (by decide +kernel) 2 rfl (by decide) ex2_11 (ls_next (by decide) (Or.inr rfl) (ls_next (by decide) (Or.inr rfl) (ls_here ls_end))) ?_
        refine g_goto (off := -26) (tgt := 21) X (by decide +kernel) (by decide) ?_
        exact ih x2_11 h  E
set_option maxHeartbeats 4000000 in
set_option maxRecDepth 20000 in
theorem c11_goesBy {sp : Sp} {K : Ly} {sz n : Nat} (hK : LyOk K) (o : Nat) (h : Hp) (ho : K o = some (.inl 11)) {hf : Hp} (E : f11_goesBy K n o h = some hf) : Con sp y11_goesBy prog_13_method_82_code 4 none 9 0 0 [.ref o] sz K h none sz K hf := by
  refine Con.of (by decide) (Nat.le_of_ble_eq_true rfl) (fun Γ X _ => ?_)
  show Go Γ (0, 0) 0 [(0, .ref o)] [] sz K h
  unfold f11_goesBy at E
  refine g_aload_n (n := 0) X (by decide +kernel) 0 rfl ?_
  refine g_dup X (by decide +kernel) rfl ?_
  refine g_getI X (by decide +kernel) fl11_384 ho ?_
  refine g_iconst (n := 1) (x := (1 : Int32)) X (by decide +kernel) (by decide) ?_
  refine g_iadd X (by decide +kernel) ?_
  obtain ⟨h1, eh1, E⟩ := lt_E E
  refine g_putI X (by decide +kernel) fp11_384 ho eh1 ?_
  refine g_aload_n (n := 0) X (by decide +kernel) 0 rfl ?_
  obtain ⟨h3, e2, E⟩ := bp_E E
  refine g_callV0 (st := []) X [] (by decide +kernel) ml11_506 ho rfl rfl (by decide) (Nat.le_of_ble_eq_true rfl) (c11_endsAll hK o h1 ho e2) ?_
  refine g_aload_n (n := 0) X (by decide +kernel) 0 rfl ?_
  refine g_getI X (by decide +kernel) fl11_387 ho ?_
  obtain ⟨x1_4, ex1_4, E⟩ := lt_E E
  refine s_istore_n (n := 1) (i := 1) X (by decide +kernel) rfl (by decide) ex1_4 (ls_next (by decide) (Or.inr rfl) (ls_ins ls_end)) ?_
  refine g_iconst (n := 0) (x := (0 : Int32)) X (by decide +kernel) (by decide) ?_
  refine s_istore_n (n := 2) (i := 2) X (by decide +kernel) rfl (by decide) rfl (ls_next (by decide) (Or.inr rfl) (ls_next (by decide) (Or.inr rfl) (ls_ins ls_end))) ?_
  exact w11_goesBy_L21 X hK o x1_4 ho n (0 : Int32) h3 E
-- AskedNamesModel.waits
def f11_waits_L15 (K : Ly) (n : Nat) (x0 : Nat) (x1 : Int32)   : Nat → Int32 → Hp → Option (Int32 × Hp)
  | 0, _, _ => none
  | k + 1, x2, h =>
    if x1 ≤ x2 then (
    some ((1 : Int32), h))
    else (
    bp (f11_goesBy K n x0 h) fun h4 =>
    lt (x2 + (1 : Int32)) fun x2_5 =>
    f11_waits_L15 K n x0 x1  k x2_5 h4)
def f11_waits (K : Ly) (n : Nat) (o : Nat) (a1 : Int32) (h : Hp) : Option (Int32 × Hp) :=
    if ((h.1 o 27) + a1) ≤ (99 : Int32) then (
    f11_waits_L15 K n o a1 n (0 : Int32) h)
    else (
    some ((0 : Int32), h))
set_option maxHeartbeats 4000000 in
set_option maxRecDepth 20000 in
theorem w11_waits_L15 {Γ : CT} {sp : Sp} {K : Ly} {sz n : Nat} {v : Int32} {hf : Hp}  (X : Ok Γ sp prog_13_method_83_code Rc11 3 (some (.boolean)) 10 (some (.int v)) sz K hf) (hK : LyOk K) (x0 : Nat) (x1 : Int32)  (px0 : K x0 = some (.inl 11))  : ∀ (k : Nat) (x2 : Int32) (h : Hp), f11_waits_L15 K n x0 x1  k x2 h = some (v, hf) → Go Γ (0, 0) 15 [(0, .ref x0), (1, .int x1), (2, .int x2)] [] sz K h := by
  intro k
  induction k with
  | zero => intro x2 h E; cases E
  | succ k ih =>
    intro x2 h E
    unfold f11_waits_L15 at E
    refine g_iload_n (n := 2) X (by decide +kernel) 2 rfl ?_
    refine g_iload_n (n := 1) X (by decide +kernel) 1 rfl ?_
    rcases it_E E with ⟨c2, E⟩ | ⟨c2, E⟩
    · refine g_icmp_ge_t (off := 13) (tgt := 30) X (by decide +kernel) (by decide) c2 ?_
      refine g_iconst (n := 1) (x := (1 : Int32)) X (by decide +kernel) (by decide) ?_
      obtain ⟨rfl, rfl⟩ := rt_E E
      exact g_zreturn X (by decide +kernel) rfl
    · refine g_icmp_ge_f (off := 13) (tgt := 30) X (by decide +kernel) (by decide) c2 ?_
      refine g_aload_n (n := 0) X (by decide +kernel) 0 rfl ?_
      obtain ⟨h4, e3, E⟩ := bp_E E
      refine g_callV0 (st := []) X [] (by decide +kernel) ml11_515 px0 rfl rfl (by decide) (Nat.le_of_ble_eq_true rfl) (c11_goesBy hK x0 h px0 e3) ?_
      obtain ⟨x2_5, ex2_5, E⟩ := lt_E E
      refine s_iinc (i := 2) (n := 1) (y := x2_5) X (by decide +kernel) 2 rfl (by decide) ex2_5 (ls_next (by decide) (Or.inr rfl) (ls_next (by decide) (Or.inr rfl) (ls_here ls_end))) ?_
      refine g_goto (off := -12) (tgt := 15) X (by decide +kernel) (by decide) ?_
      exact ih x2_5 h4  E
set_option maxHeartbeats 4000000 in
set_option maxRecDepth 20000 in
theorem c11_waits {sp : Sp} {K : Ly} {sz n : Nat} (hK : LyOk K) (o : Nat) (a1 : Int32) (h : Hp) (ho : K o = some (.inl 11)) {v : Int32} {hf : Hp} (E : f11_waits K n o a1 h = some (v, hf)) : Con sp y11_waits prog_13_method_83_code 3 (some (.boolean)) 10 0 0 [.ref o, .int a1] sz K h (some (.int v)) sz K hf := by
  refine Con.of (by decide) (Nat.le_of_ble_eq_true rfl) (fun Γ X _ => ?_)
  show Go Γ (0, 0) 0 [(0, .ref o), (1, .int a1)] [] sz K h
  unfold f11_waits at E
  refine g_aload_n (n := 0) X (by decide +kernel) 0 rfl ?_
  refine g_getI X (by decide +kernel) fl11_384 ho ?_
  refine g_iload_n (n := 1) X (by decide +kernel) 1 rfl ?_
  refine g_iadd X (by decide +kernel) ?_
  refine g_bipush (n := 99) (x := (99 : Int32)) X (by decide +kernel) (by decide) ?_
  rcases it_E E with ⟨c1, E⟩ | ⟨c1, E⟩
  · refine g_icmp_le_t (off := 5) (tgt := 13) X (by decide +kernel) (by decide) c1 ?_
    refine g_iconst (n := 0) (x := (0 : Int32)) X (by decide +kernel) (by decide) ?_
    refine s_istore_n (n := 2) (i := 2) X (by decide +kernel) rfl (by decide) rfl (ls_next (by decide) (Or.inr rfl) (ls_next (by decide) (Or.inr rfl) (ls_ins ls_end))) ?_
    exact w11_waits_L15 X hK o a1 ho n (0 : Int32) h E
  · refine g_icmp_le_f (off := 5) (tgt := 13) X (by decide +kernel) (by decide) c1 ?_
    refine g_iconst (n := 0) (x := (0 : Int32)) X (by decide +kernel) (by decide) ?_
    obtain ⟨rfl, rfl⟩ := rt_E E
    exact g_zreturn X (by decide +kernel) rfl
-- AskedNamesModel.asks
def f11_asks (K : Ly) (n : Nat) (o : Nat) (a1 : Int32) (a2 : Int32) (a3 : Int32) (a4 : Int32) (h : Hp) : Option (Int32 × Hp) :=
    bp (f11_isNode K n o a1 h) fun y2 =>
    if y2 = 0 then (
    some ((0 : Int32), h))
    else (
    gd (inb a4 64) <|
    lt (sI h (o + 40) a4.toNatClampNeg (0 : Int32)) fun h5 =>
    gd (inb a4 64) <|
    lt (sI h5 (o + 42) a4.toNatClampNeg (h5.1 o 27)) fun h7 =>
    bp (f11_interest K n o a1 ((100 : Int32) + a4) a2 a3 a4 h7) fun h9 =>
    some ((1 : Int32), h9))
set_option maxHeartbeats 4000000 in
set_option maxRecDepth 20000 in
theorem c11_asks {sp : Sp} {K : Ly} {sz n : Nat} (hK : LyOk K) (o : Nat) (a1 : Int32) (a2 : Int32) (a3 : Int32) (a4 : Int32) (h : Hp) (ho : K o = some (.inl 11)) {v : Int32} {hf : Hp} (E : f11_asks K n o a1 a2 a3 a4 h = some (v, hf)) : Con sp y11_asks prog_13_method_84_code 5 (some (.boolean)) 8 0 0 [.ref o, .int a1, .int a2, .int a3, .int a4] sz K h (some (.int v)) sz K hf := by
  refine Con.of (by decide) (Nat.le_of_ble_eq_true rfl) (fun Γ X _ => ?_)
  show Go Γ (0, 0) 0 [(0, .ref o), (1, .int a1), (2, .int a2), (3, .int a3), (4, .int a4)] [] sz K h
  unfold f11_asks at E
  refine g_aload_n (n := 0) X (by decide +kernel) 0 rfl ?_
  refine g_iload_n (n := 1) X (by decide +kernel) 1 rfl ?_
  obtain ⟨y2, e1, E⟩ := bp_E E
  refine g_callV1 (st := []) X [.int a1] (by decide +kernel) ml11_375 ho rfl rfl (by decide) (Nat.le_of_ble_eq_true rfl) (c11_isNode hK o a1 h ho e1) ?_
  rcases it_E E with ⟨c3, E⟩ | ⟨c3, E⟩
  · refine g_if_ne_f (off := 5) (tgt := 10) X (by decide +kernel) (by decide) (fun z => z c3) ?_
    refine g_iconst (n := 0) (x := (0 : Int32)) X (by decide +kernel) (by decide) ?_
    obtain ⟨rfl, rfl⟩ := rt_E E
    exact g_zreturn X (by decide +kernel) rfl
  · refine g_if_ne_t (off := 5) (tgt := 10) X (by decide +kernel) (by decide) c3 ?_
    refine g_aload_n (n := 0) X (by decide +kernel) 0 rfl ?_
    refine g_getS X (by decide +kernel) fl11_129 ho ?_
    refine g_iload (n := 4) X (by decide +kernel) 4 rfl ?_
    refine g_iconst (n := 0) (x := (0 : Int32)) X (by decide +kernel) (by decide) ?_
    obtain ⟨c4, E⟩ := gd_E E
    obtain ⟨h5, eh5, E⟩ := lt_E E
    refine g_iast X (by decide +kernel) (ly hK ho fl11_129 rfl) c4 eh5 ?_
    refine g_aload_n (n := 0) X (by decide +kernel) 0 rfl ?_
    refine g_getS X (by decide +kernel) fl11_135 ho ?_
    refine g_iload (n := 4) X (by decide +kernel) 4 rfl ?_
    refine g_aload_n (n := 0) X (by decide +kernel) 0 rfl ?_
    refine g_getI X (by decide +kernel) fl11_384 ho ?_
    obtain ⟨c6, E⟩ := gd_E E
    obtain ⟨h7, eh7, E⟩ := lt_E E
    refine g_iast X (by decide +kernel) (ly hK ho fl11_135 rfl) c6 eh7 ?_
    refine g_aload_n (n := 0) X (by decide +kernel) 0 rfl ?_
    refine g_iload_n (n := 1) X (by decide +kernel) 1 rfl ?_
    refine g_bipush (n := 100) (x := (100 : Int32)) X (by decide +kernel) (by decide) ?_
    refine g_iload (n := 4) X (by decide +kernel) 4 rfl ?_
    refine g_iadd X (by decide +kernel) ?_
    refine g_iload_n (n := 2) X (by decide +kernel) 2 rfl ?_
    refine g_iload_n (n := 3) X (by decide +kernel) 3 rfl ?_
    refine g_iload (n := 4) X (by decide +kernel) 4 rfl ?_
    obtain ⟨h9, e8, E⟩ := bp_E E
    refine g_callV0 (st := []) X [.int a1, .int ((100 : Int32) + a4), .int a2, .int a3, .int a4] (by decide +kernel) ml11_497 ho rfl rfl (by decide) (Nat.le_of_ble_eq_true rfl) (c11_interest hK o a1 ((100 : Int32) + a4) a2 a3 a4 h7 ho e8) ?_
    refine g_iconst (n := 1) (x := (1 : Int32)) X (by decide +kernel) (by decide) ?_
    obtain ⟨rfl, rfl⟩ := rt_E E
    exact g_zreturn X (by decide +kernel) rfl
-- AskedNamesModel.changes
def f11_changes_J82 (K : Ly) (n : Nat)  (s0 : Nat) (s1 : Int32) (h : Hp) : Option (Int32 × Hp) :=
    lt (sI h s0 26 s1) fun h11 =>
    some ((1 : Int32), h11)
def f11_changes_J31 (K : Ly) (n : Nat)  (x0 : Nat) (x3 : Int32) (s0 : Int32) (h : Hp) : Option (Int32 × Hp) :=
    if s0 = (-1 : Int32) then (
    some ((0 : Int32), h))
    else (
    if (f11_has (h.1 x0 26) s0) = x3 then (
    some ((0 : Int32), h))
    else (
    f11_changes_J82 K n x0 (if x3 = 0 then ((h.1 x0 26) &&& (((1 : Int32) <<< (s0 &&& 31)) ^^^ (-1 : Int32))) else ((h.1 x0 26) ||| ((1 : Int32) <<< (s0 &&& 31)))) h))
def f11_changes_J30 (K : Ly) (n : Nat)  (x0 : Nat) (x3 : Int32) (h : Hp) : Option (Int32 × Hp) :=
    f11_changes_J31 K n x0 x3 (-1 : Int32) h
def f11_changes (K : Ly) (n : Nat) (o : Nat) (a1 : Int32) (a2 : Int32) (a3 : Int32) (h : Hp) : Option (Int32 × Hp) :=
    bp (f11_isNode K n o a1 h) fun y2 =>
    if y2 = 0 then (
    f11_changes_J30 K n o a3 h)
    else (
    bp (f11_isNode K n o a2 h) fun y5 =>
    if y5 = 0 then (
    f11_changes_J30 K n o a3 h)
    else (
    gd (inb (((6 : Int32) * a1) + a2) 36) <|
    f11_changes_J31 K n o a3 (h.1 (o + 11) (((6 : Int32) * a1) + a2).toNatClampNeg) h))
set_option maxHeartbeats 4000000 in
set_option maxRecDepth 20000 in
theorem w11_changes_J82 {Γ : CT} {sp : Sp} {K : Ly} {sz n : Nat} {v : Int32} {hf : Hp}   (X : Ok Γ sp prog_13_method_85_code Rc11 5 (some (.boolean)) 3 (some (.int v)) sz K hf) (hK : LyOk K) (s0 : Nat) (s1 : Int32) (h : Hp)  (ps0 : K s0 = some (.inl 11)) (E : f11_changes_J82 K n s0 s1 h = some (v, hf)) : Go Γ (0, 0) 82 [] [.int s1, .ref s0] sz K h := by
  unfold f11_changes_J82 at E
  obtain ⟨h11, eh11, E⟩ := lt_E E
  refine g_putI X (by decide +kernel) fp11_351 ps0 eh11 ?_
  refine g_iconst (n := 1) (x := (1 : Int32)) X (by decide +kernel) (by decide) ?_
  obtain ⟨rfl, rfl⟩ := rt_E E
  exact g_zreturn X (by decide +kernel) rfl
set_option maxHeartbeats 4000000 in
set_option maxRecDepth 20000 in
theorem w11_changes_J31 {Γ : CT} {sp : Sp} {K : Ly} {sz n : Nat} {v : Int32} {hf : Hp}   (X : Ok Γ sp prog_13_method_85_code Rc11 5 (some (.boolean)) 3 (some (.int v)) sz K hf) (hK : LyOk K) (x0 : Nat) (x3 : Int32) (s0 : Int32) (h : Hp)  (px0 : K x0 = some (.inl 11)) (E : f11_changes_J31 K n x0 x3 s0 h = some (v, hf)) : Go Γ (0, 0) 31 [(0, .ref x0), (3, .int x3)] [.int s0] sz K h := by
  unfold f11_changes_J31 at E
  refine s_istore (i := 4) X (by decide +kernel) (by decide) rfl (ls_next (by decide) (Or.inr rfl) (ls_next (by decide) (Or.inr rfl) (ls_ins ls_end))) ?_
  refine g_iload (n := 4) X (by decide +kernel) 2 rfl ?_
  refine g_iconst (n := -1) (x := (-1 : Int32)) X (by decide +kernel) (by decide) ?_
  rcases it_E E with ⟨c8, E⟩ | ⟨c8, E⟩
  · refine g_icmp_eq_t (off := 16) (tgt := 52) X (by decide +kernel) (by decide) c8 ?_
    refine g_iconst (n := 0) (x := (0 : Int32)) X (by decide +kernel) (by decide) ?_
    obtain ⟨rfl, rfl⟩ := rt_E E
    exact g_zreturn X (by decide +kernel) rfl
  · refine g_icmp_eq_f (off := 16) (tgt := 52) X (by decide +kernel) (by decide) c8 ?_
    refine g_aload_n (n := 0) X (by decide +kernel) 0 rfl ?_
    refine g_getI X (by decide +kernel) fl11_351 px0 ?_
    refine g_iload (n := 4) X (by decide +kernel) 2 rfl ?_
    refine g_callS1 (st := []) X [.int (h.1 x0 26), .int s0] (by decide +kernel) ml11_173 (by decide) (Nat.le_of_ble_eq_true rfl) (c11_has hK (h.1 x0 26) s0 h ) ?_
    refine g_iload_n (n := 3) X (by decide +kernel) 1 rfl ?_
    rcases it_E E with ⟨c9, E⟩ | ⟨c9, E⟩
    · refine g_icmp_ne_f (off := 5) (tgt := 54) X (by decide +kernel) (by decide) (fun z => z c9) ?_
      refine g_iconst (n := 0) (x := (0 : Int32)) X (by decide +kernel) (by decide) ?_
      obtain ⟨rfl, rfl⟩ := rt_E E
      exact g_zreturn X (by decide +kernel) rfl
    · refine g_icmp_ne_t (off := 5) (tgt := 54) X (by decide +kernel) (by decide) c9 ?_
      refine g_aload_n (n := 0) X (by decide +kernel) 0 rfl ?_
      refine g_iload_n (n := 3) X (by decide +kernel) 1 rfl ?_
      have hJ : Go Γ (0, 0) 82 [] [.int (if x3 = 0 then ((h.1 x0 26) &&& (((1 : Int32) <<< (s0 &&& 31)) ^^^ (-1 : Int32))) else ((h.1 x0 26) ||| ((1 : Int32) <<< (s0 &&& 31)))), .ref x0] sz K h := by
        exact w11_changes_J82 X hK x0 (if x3 = 0 then ((h.1 x0 26) &&& (((1 : Int32) <<< (s0 &&& 31)) ^^^ (-1 : Int32))) else ((h.1 x0 26) ||| ((1 : Int32) <<< (s0 &&& 31)))) h px0 E
      clear E
      by_cases c10 : x3 = 0
      · rw [if_pos c10] at hJ
        refine g_if_eq_t (off := 15) (tgt := 71) X (by decide +kernel) (by decide) c10 ?_
        refine g_aload_n (n := 0) X (by decide +kernel) 0 rfl ?_
        refine g_getI X (by decide +kernel) fl11_351 px0 ?_
        refine g_iconst (n := 1) (x := (1 : Int32)) X (by decide +kernel) (by decide) ?_
        refine g_iload (n := 4) X (by decide +kernel) 2 rfl ?_
        refine g_ishl X (by decide +kernel) ?_
        refine g_iconst (n := -1) (x := (-1 : Int32)) X (by decide +kernel) (by decide) ?_
        refine g_ixor X (by decide +kernel) ?_
        refine g_iand X (by decide +kernel) ?_
        refine g_sub [] rfl ?_
        exact hJ
      · rw [if_neg c10] at hJ
        refine g_if_eq_f (off := 15) (tgt := 71) X (by decide +kernel) (by decide) c10 ?_
        refine g_aload_n (n := 0) X (by decide +kernel) 0 rfl ?_
        refine g_getI X (by decide +kernel) fl11_351 px0 ?_
        refine g_iconst (n := 1) (x := (1 : Int32)) X (by decide +kernel) (by decide) ?_
        refine g_iload (n := 4) X (by decide +kernel) 2 rfl ?_
        refine g_ishl X (by decide +kernel) ?_
        refine g_ior X (by decide +kernel) ?_
        refine g_goto (off := 14) (tgt := 82) X (by decide +kernel) (by decide) ?_
        refine g_sub [] rfl ?_
        exact hJ
set_option maxHeartbeats 4000000 in
set_option maxRecDepth 20000 in
theorem w11_changes_J30 {Γ : CT} {sp : Sp} {K : Ly} {sz n : Nat} {v : Int32} {hf : Hp}   (X : Ok Γ sp prog_13_method_85_code Rc11 5 (some (.boolean)) 3 (some (.int v)) sz K hf) (hK : LyOk K) (x0 : Nat) (x3 : Int32) (h : Hp)  (px0 : K x0 = some (.inl 11)) (E : f11_changes_J30 K n x0 x3 h = some (v, hf)) : Go Γ (0, 0) 30 [(0, .ref x0), (3, .int x3)] [] sz K h := by
  unfold f11_changes_J30 at E
  refine g_iconst (n := -1) (x := (-1 : Int32)) X (by decide +kernel) (by decide) ?_
  exact w11_changes_J31 X hK x0 x3 (-1 : Int32) h px0 E
set_option maxHeartbeats 4000000 in
set_option maxRecDepth 20000 in
theorem c11_changes {sp : Sp} {K : Ly} {sz n : Nat} (hK : LyOk K) (o : Nat) (a1 : Int32) (a2 : Int32) (a3 : Int32) (h : Hp) (ho : K o = some (.inl 11)) {v : Int32} {hf : Hp} (E : f11_changes K n o a1 a2 a3 h = some (v, hf)) : Con sp y11_changes prog_13_method_85_code 5 (some (.boolean)) 3 0 0 [.ref o, .int a1, .int a2, .int a3] sz K h (some (.int v)) sz K hf := by
  refine Con.of (by decide) (Nat.le_of_ble_eq_true rfl) (fun Γ X _ => ?_)
  show Go Γ (0, 0) 0 [(0, .ref o), (1, .int a1), (2, .int a2), (3, .int a3)] [] sz K h
  unfold f11_changes at E
  refine g_aload_n (n := 0) X (by decide +kernel) 0 rfl ?_
  refine g_iload_n (n := 1) X (by decide +kernel) 1 rfl ?_
  obtain ⟨y2, e1, E⟩ := bp_E E
  refine g_callV1 (st := []) X [.int a1] (by decide +kernel) ml11_375 ho rfl rfl (by decide) (Nat.le_of_ble_eq_true rfl) (c11_isNode hK o a1 h ho e1) ?_
  rcases it_E E with ⟨c3, E⟩ | ⟨c3, E⟩
  · refine g_if_eq_t (off := 25) (tgt := 30) X (by decide +kernel) (by decide) c3 ?_
    refine g_sub [0, 3] rfl ?_
    exact w11_changes_J30 X hK o a3 h ho E
  · refine g_if_eq_f (off := 25) (tgt := 30) X (by decide +kernel) (by decide) c3 ?_
    refine g_aload_n (n := 0) X (by decide +kernel) 0 rfl ?_
    refine g_iload_n (n := 2) X (by decide +kernel) 2 rfl ?_
    obtain ⟨y5, e4, E⟩ := bp_E E
    refine g_callV1 (st := []) X [.int a2] (by decide +kernel) ml11_375 ho rfl rfl (by decide) (Nat.le_of_ble_eq_true rfl) (c11_isNode hK o a2 h ho e4) ?_
    rcases it_E E with ⟨c6, E⟩ | ⟨c6, E⟩
    · refine g_if_eq_t (off := 17) (tgt := 30) X (by decide +kernel) (by decide) c6 ?_
      refine g_sub [0, 3] rfl ?_
      exact w11_changes_J30 X hK o a3 h ho E
    · refine g_if_eq_f (off := 17) (tgt := 30) X (by decide +kernel) (by decide) c6 ?_
      refine g_aload_n (n := 0) X (by decide +kernel) 0 rfl ?_
      refine g_getS X (by decide +kernel) fl11_41 ho ?_
      refine g_bipush (n := 6) (x := (6 : Int32)) X (by decide +kernel) (by decide) ?_
      refine g_iload_n (n := 1) X (by decide +kernel) 1 rfl ?_
      refine g_imul X (by decide +kernel) ?_
      refine g_iload_n (n := 2) X (by decide +kernel) 2 rfl ?_
      refine g_iadd X (by decide +kernel) ?_
      obtain ⟨c7, E⟩ := gd_E E
      refine g_iald X (by decide +kernel) (ly hK ho fl11_41 rfl) c7 ?_
      refine g_goto (off := 4) (tgt := 31) X (by decide +kernel) (by decide) ?_
      refine g_sub [0, 3] rfl ?_
      exact w11_changes_J31 X hK o a3 (h.1 (o + 11) (((6 : Int32) * a1) + a2).toNatClampNeg) h ho E
-- AskedNamesModel.does
def f11_does_J28 (K : Ly) (n : Nat)  (x0 : Nat) (x1 : Int32) (x2 : Int32) (x3 : Int32) (x4 : Int32) (h : Hp) : Option (Int32 × Hp) :=
    bd (f11_asks K n x0 x2 x3 x1 x4 h) fun y12 h11 =>
    gd (isB y12) <|
    some (y12, h11)
def f11_does_J57 (K : Ly) (n : Nat)  (s0 : Nat) (s1 : Int32) (s2 : Int32) (s3 : Int32) (h : Hp) : Option (Int32 × Hp) :=
    bd (f11_changes K n s0 s1 s2 s3 h) fun y16 h15 =>
    gd (isB y16) <|
    some (y16, h15)
def f11_does (K : Ly) (n : Nat) (o : Nat) (a1 : Int32) (a2 : Int32) (a3 : Int32) (a4 : Int32) (h : Hp) : Option (Int32 × Hp) :=
    if a1 = (0 : Int32) then (
    f11_does_J28 K n o a1 a2 a3 a4 h)
    else if a1 = (1 : Int32) then (
    f11_does_J28 K n o a1 a2 a3 a4 h)
    else if a1 = (2 : Int32) then (
    bd (f11_waits K n o a2 h) fun y6 h5 =>
    gd (isB y6) <|
    some (y6, h5))
    else (
    f11_does_J57 K n o a2 a3 (if a1 = (3 : Int32) then (1 : Int32) else (0 : Int32)) h)
set_option maxHeartbeats 4000000 in
set_option maxRecDepth 20000 in
theorem w11_does_J28 {Γ : CT} {sp : Sp} {K : Ly} {sz n : Nat} {v : Int32} {hf : Hp}   (X : Ok Γ sp prog_13_method_86_code Rc11 5 (some (.boolean)) 11 (some (.int v)) sz K hf) (hK : LyOk K) (x0 : Nat) (x1 : Int32) (x2 : Int32) (x3 : Int32) (x4 : Int32) (h : Hp)  (px0 : K x0 = some (.inl 11)) (E : f11_does_J28 K n x0 x1 x2 x3 x4 h = some (v, hf)) : Go Γ (0, 0) 28 [(0, .ref x0), (1, .int x1), (2, .int x2), (3, .int x3), (4, .int x4)] [] sz K h := by
  unfold f11_does_J28 at E
  refine g_aload_n (n := 0) X (by decide +kernel) 0 rfl ?_
  refine g_iload_n (n := 2) X (by decide +kernel) 2 rfl ?_
  refine g_iload_n (n := 3) X (by decide +kernel) 3 rfl ?_
  refine g_iload_n (n := 1) X (by decide +kernel) 1 rfl ?_
  refine g_iload (n := 4) X (by decide +kernel) 4 rfl ?_
  obtain ⟨y12, h11, e10, E⟩ := bd_E E
  refine g_callV1 (st := []) X [.int x2, .int x3, .int x1, .int x4] (by decide +kernel) ml11_518 px0 rfl rfl (by decide) (Nat.le_of_ble_eq_true rfl) (c11_asks hK x0 x2 x3 x1 x4 h px0 e10) ?_
  obtain ⟨c13, E⟩ := gd_E E
  obtain ⟨rfl, rfl⟩ := rt_E E
  exact g_zreturn X (by decide +kernel) (isB_n c13)
set_option maxHeartbeats 4000000 in
set_option maxRecDepth 20000 in
theorem w11_does_J57 {Γ : CT} {sp : Sp} {K : Ly} {sz n : Nat} {v : Int32} {hf : Hp}   (X : Ok Γ sp prog_13_method_86_code Rc11 5 (some (.boolean)) 11 (some (.int v)) sz K hf) (hK : LyOk K) (s0 : Nat) (s1 : Int32) (s2 : Int32) (s3 : Int32) (h : Hp)  (ps0 : K s0 = some (.inl 11)) (E : f11_does_J57 K n s0 s1 s2 s3 h = some (v, hf)) : Go Γ (0, 0) 57 [] [.int s3, .int s2, .int s1, .ref s0] sz K h := by
  unfold f11_does_J57 at E
  obtain ⟨y16, h15, e14, E⟩ := bd_E E
  refine g_callV1 (st := []) X [.int s1, .int s2, .int s3] (by decide +kernel) ml11_524 ps0 rfl rfl (by decide) (Nat.le_of_ble_eq_true rfl) (c11_changes hK s0 s1 s2 s3 h ps0 e14) ?_
  obtain ⟨c17, E⟩ := gd_E E
  obtain ⟨rfl, rfl⟩ := rt_E E
  exact g_zreturn X (by decide +kernel) (isB_n c17)
set_option maxHeartbeats 4000000 in
set_option maxRecDepth 20000 in
theorem c11_does {sp : Sp} {K : Ly} {sz n : Nat} (hK : LyOk K) (o : Nat) (a1 : Int32) (a2 : Int32) (a3 : Int32) (a4 : Int32) (h : Hp) (ho : K o = some (.inl 11)) {v : Int32} {hf : Hp} (E : f11_does K n o a1 a2 a3 a4 h = some (v, hf)) : Con sp y11_does prog_13_method_86_code 5 (some (.boolean)) 11 0 0 [.ref o, .int a1, .int a2, .int a3, .int a4] sz K h (some (.int v)) sz K hf := by
  refine Con.of (by decide) (Nat.le_of_ble_eq_true rfl) (fun Γ X _ => ?_)
  show Go Γ (0, 0) 0 [(0, .ref o), (1, .int a1), (2, .int a2), (3, .int a3), (4, .int a4)] [] sz K h
  unfold f11_does at E
  refine g_iload_n (n := 1) X (by decide +kernel) 1 rfl ?_
  rcases it_E E with ⟨c1, E⟩ | ⟨c1, E⟩
  · refine g_tab_in (dflt := 43) (lo := 0) (hi := 2) (offs := #[27, 27, 37]) (len := 27) (off := 27) (tgt := 28) X (by decide +kernel) (by rw [c1]; decide) (by rw [c1]; decide) (by rw [c1]; decide) (by decide) ?_
    exact w11_does_J28 X hK o a1 a2 a3 a4 h ho E
  · rcases it_E E with ⟨c2, E⟩ | ⟨c2, E⟩
    · refine g_tab_in (dflt := 43) (lo := 0) (hi := 2) (offs := #[27, 27, 37]) (len := 27) (off := 27) (tgt := 28) X (by decide +kernel) (by rw [c2]; decide) (by rw [c2]; decide) (by rw [c2]; decide) (by decide) ?_
      exact w11_does_J28 X hK o a1 a2 a3 a4 h ho E
    · rcases it_E E with ⟨c3, E⟩ | ⟨c3, E⟩
      · refine g_tab_in (dflt := 43) (lo := 0) (hi := 2) (offs := #[27, 27, 37]) (len := 27) (off := 37) (tgt := 38) X (by decide +kernel) (by rw [c3]; decide) (by rw [c3]; decide) (by rw [c3]; decide) (by decide) ?_
        refine g_aload_n (n := 0) X (by decide +kernel) 0 rfl ?_
        refine g_iload_n (n := 2) X (by decide +kernel) 2 rfl ?_
        obtain ⟨y6, h5, e4, E⟩ := bd_E E
        refine g_callV1 (st := []) X [.int a2] (by decide +kernel) ml11_521 ho rfl rfl (by decide) (Nat.le_of_ble_eq_true rfl) (c11_waits hK o a2 h ho e4) ?_
        obtain ⟨c7, E⟩ := gd_E E
        obtain ⟨rfl, rfl⟩ := rt_E E
        exact g_zreturn X (by decide +kernel) (isB_n c7)
      · have z9 : a1.toInt < 0 ∨ 2 < a1.toInt := by
          have z := sw_out (x := a1) 0 2 (by decide) (by decide) (by
            intro j hj
            have hj2 : j = 0 ∨ j = 1 ∨ j = 2 := by omega
            rcases hj2 with rfl | rfl | rfl
            · exact c1
            · exact c2
            · exact c3)
          simpa using z
        refine g_tab_out (dflt := 43) (lo := 0) (hi := 2) (offs := #[27, 27, 37]) (len := 27) (tgt := 44) X (by decide +kernel) z9 (by decide) ?_
        refine g_aload_n (n := 0) X (by decide +kernel) 0 rfl ?_
        refine g_iload_n (n := 2) X (by decide +kernel) 2 rfl ?_
        refine g_iload_n (n := 3) X (by decide +kernel) 3 rfl ?_
        refine g_iload_n (n := 1) X (by decide +kernel) 1 rfl ?_
        refine g_iconst (n := 3) (x := (3 : Int32)) X (by decide +kernel) (by decide) ?_
        have hJ : Go Γ (0, 0) 57 [] [.int (if a1 = (3 : Int32) then (1 : Int32) else (0 : Int32)), .int a3, .int a2, .ref o] sz K h := by
          exact w11_does_J57 X hK o a2 a3 (if a1 = (3 : Int32) then (1 : Int32) else (0 : Int32)) h ho E
        clear E
        by_cases c8 : a1 = (3 : Int32)
        · rw [if_pos c8] at hJ
          refine g_icmp_ne_f (off := 7) (tgt := 56) X (by decide +kernel) (by decide) (fun z => z c8) ?_
          refine g_iconst (n := 1) (x := (1 : Int32)) X (by decide +kernel) (by decide) ?_
          refine g_goto (off := 4) (tgt := 57) X (by decide +kernel) (by decide) ?_
          refine g_sub [] rfl ?_
          exact hJ
        · rw [if_neg c8] at hJ
          refine g_icmp_ne_t (off := 7) (tgt := 56) X (by decide +kernel) (by decide) c8 ?_
          refine g_iconst (n := 0) (x := (0 : Int32)) X (by decide +kernel) (by decide) ?_
          refine g_sub [] rfl ?_
          exact hJ
-- AskedNamesModel.deeds
def f11_deeds (K : Ly) (n : Nat) (o : Nat) (h : Hp) : Option (Int32) :=
    gd (inb ((121 : Int32) * (h.1 o 75)) 968) <|
    some (h.1 (o + 7) ((121 : Int32) * (h.1 o 75)).toNatClampNeg)
set_option maxHeartbeats 4000000 in
set_option maxRecDepth 20000 in
theorem c11_deeds {sp : Sp} {K : Ly} {sz n : Nat} (hK : LyOk K) (o : Nat) (h : Hp) (ho : K o = some (.inl 11)) {v : Int32} (E : f11_deeds K n o h = some v) : Con sp y11_deeds prog_13_method_87_code 1 (some (.int)) 1 0 0 [.ref o] sz K h (some (.int v)) sz K h := by
  refine Con.of (by decide) (Nat.le_of_ble_eq_true rfl) (fun Γ X _ => ?_)
  show Go Γ (0, 0) 0 [(0, .ref o)] [] sz K h
  unfold f11_deeds at E
  refine g_aload_n (n := 0) X (by decide +kernel) 0 rfl ?_
  refine g_getS X (by decide +kernel) fl11_29 ho ?_
  refine g_bipush (n := 121) (x := (121 : Int32)) X (by decide +kernel) (by decide) ?_
  refine g_aload_n (n := 0) X (by decide +kernel) 0 rfl ?_
  refine g_getI X (by decide +kernel) fl11_528 ho ?_
  refine g_imul X (by decide +kernel) ?_
  obtain ⟨c1, E⟩ := gd_E E
  refine g_iald X (by decide +kernel) (ly hK ho fl11_29 rfl) c1 ?_
  obtain rfl := Option.some.inj E
  exact g_ireturn X (by decide +kernel)
-- AskedNamesModel.deedOf
def f11_deedOf (K : Ly) (n : Nat) (o : Nat) (a1 : Int32) (a2 : Int32) (h : Hp) : Option (Int32) :=
    gd (inb (((((121 : Int32) * (h.1 o 75)) + (1 : Int32)) + ((3 : Int32) * a1)) + a2) 968) <|
    some (h.1 (o + 7) (((((121 : Int32) * (h.1 o 75)) + (1 : Int32)) + ((3 : Int32) * a1)) + a2).toNatClampNeg)
set_option maxHeartbeats 4000000 in
set_option maxRecDepth 20000 in
theorem c11_deedOf {sp : Sp} {K : Ly} {sz n : Nat} (hK : LyOk K) (o : Nat) (a1 : Int32) (a2 : Int32) (h : Hp) (ho : K o = some (.inl 11)) {v : Int32} (E : f11_deedOf K n o a1 a2 h = some v) : Con sp y11_deedOf prog_13_method_88_code 3 (some (.int)) 1 0 0 [.ref o, .int a1, .int a2] sz K h (some (.int v)) sz K h := by
  refine Con.of (by decide) (Nat.le_of_ble_eq_true rfl) (fun Γ X _ => ?_)
  show Go Γ (0, 0) 0 [(0, .ref o), (1, .int a1), (2, .int a2)] [] sz K h
  unfold f11_deedOf at E
  refine g_aload_n (n := 0) X (by decide +kernel) 0 rfl ?_
  refine g_getS X (by decide +kernel) fl11_29 ho ?_
  refine g_bipush (n := 121) (x := (121 : Int32)) X (by decide +kernel) (by decide) ?_
  refine g_aload_n (n := 0) X (by decide +kernel) 0 rfl ?_
  refine g_getI X (by decide +kernel) fl11_528 ho ?_
  refine g_imul X (by decide +kernel) ?_
  refine g_iconst (n := 1) (x := (1 : Int32)) X (by decide +kernel) (by decide) ?_
  refine g_iadd X (by decide +kernel) ?_
  refine g_iconst (n := 3) (x := (3 : Int32)) X (by decide +kernel) (by decide) ?_
  refine g_iload_n (n := 1) X (by decide +kernel) 1 rfl ?_
  refine g_imul X (by decide +kernel) ?_
  refine g_iadd X (by decide +kernel) ?_
  refine g_iload_n (n := 2) X (by decide +kernel) 2 rfl ?_
  refine g_iadd X (by decide +kernel) ?_
  obtain ⟨c1, E⟩ := gd_E E
  refine g_iald X (by decide +kernel) (ly hK ho fl11_29 rfl) c1 ?_
  obtain rfl := Option.some.inj E
  exact g_ireturn X (by decide +kernel)
-- AskedNamesModel.hasRun
def f11_hasRun (K : Ly) (n : Nat) (o : Nat) (a1 : Int32) (h : Hp) : Option (Int32 × Hp) :=
    lt (sI h o 75 a1) fun h1 =>
    bp (f11_is K n o (1 : Int32) a1 h1) fun y3 =>
    gd (isB y3) <|
    some (y3, h1)
set_option maxHeartbeats 4000000 in
set_option maxRecDepth 20000 in
theorem c11_hasRun {sp : Sp} {K : Ly} {sz n : Nat} (hK : LyOk K) (o : Nat) (a1 : Int32) (h : Hp) (ho : K o = some (.inl 11)) {v : Int32} {hf : Hp} (E : f11_hasRun K n o a1 h = some (v, hf)) : Con sp y11_hasRun prog_13_method_89_code 2 (some (.boolean)) 3 0 0 [.ref o, .int a1] sz K h (some (.int v)) sz K hf := by
  refine Con.of (by decide) (Nat.le_of_ble_eq_true rfl) (fun Γ X _ => ?_)
  show Go Γ (0, 0) 0 [(0, .ref o), (1, .int a1)] [] sz K h
  unfold f11_hasRun at E
  refine g_aload_n (n := 0) X (by decide +kernel) 0 rfl ?_
  refine g_iload_n (n := 1) X (by decide +kernel) 1 rfl ?_
  obtain ⟨h1, eh1, E⟩ := lt_E E
  refine g_putI X (by decide +kernel) fp11_528 ho eh1 ?_
  refine g_aload_n (n := 0) X (by decide +kernel) 0 rfl ?_
  refine g_iconst (n := 1) (x := (1 : Int32)) X (by decide +kernel) (by decide) ?_
  refine g_iload_n (n := 1) X (by decide +kernel) 1 rfl ?_
  obtain ⟨y3, e2, E⟩ := bp_E E
  refine g_callV1 (st := []) X [.int (1 : Int32), .int a1] (by decide +kernel) ml11_322 ho rfl rfl (by decide) (Nat.le_of_ble_eq_true rfl) (c11_is hK o (1 : Int32) a1 h1 ho e2) ?_
  obtain ⟨c4, E⟩ := gd_E E
  obtain ⟨rfl, rfl⟩ := rt_E E
  exact g_zreturn X (by decide +kernel) (isB_n c4)
-- AskedNamesModel.deed
def f11_deed (K : Ly) (n : Nat) (o : Nat) (a1 : Int32) (a2 : Int32) (a3 : Int32) (h : Hp) : Option (Int32 × Hp) :=
    lt (sI h o 0 (0 : Int32)) fun h1 =>
    bd (f11_hasRun K n o a1 h1) fun y4 h3 =>
    if y4 = 0 then (
    some ((-2 : Int32), h3))
    else (
    if a2 = (-1 : Int32) then (
    if a3 = 0 then (
    bp (f11_deeds K n o h3) fun y9 =>
    some (y9, h3))
    else (
    some ((-2 : Int32), h3)))
    else (
    bp (f11_deeds K n o h3) fun y11 =>
    if (f11_in a2 (0 : Int32) (y11 - (1 : Int32))) = 0 then (
    some ((-2 : Int32), h3))
    else (
    if (f11_in a3 (0 : Int32) (2 : Int32)) = 0 then (
    some ((-2 : Int32), h3))
    else (
    bp (f11_deedOf K n o a2 a3 h3) fun y15 =>
    some (y15, h3)))))
set_option maxHeartbeats 4000000 in
set_option maxRecDepth 20000 in
theorem c11_deed {sp : Sp} {K : Ly} {sz n : Nat} (hK : LyOk K) (o : Nat) (a1 : Int32) (a2 : Int32) (a3 : Int32) (h : Hp) (ho : K o = some (.inl 11)) {v : Int32} {hf : Hp} (E : f11_deed K n o a1 a2 a3 h = some (v, hf)) : Con sp y11_deed prog_13_method_90_code 4 (some (.int)) 4 0 0 [.ref o, .int a1, .int a2, .int a3] sz K h (some (.int v)) sz K hf := by
  refine Con.of (by decide) (Nat.le_of_ble_eq_true rfl) (fun Γ X _ => ?_)
  show Go Γ (0, 0) 0 [(0, .ref o), (1, .int a1), (2, .int a2), (3, .int a3)] [] sz K h
  unfold f11_deed at E
  refine g_aload_n (n := 0) X (by decide +kernel) 0 rfl ?_
  refine g_iconst (n := 0) (x := (0 : Int32)) X (by decide +kernel) (by decide) ?_
  obtain ⟨h1, eh1, E⟩ := lt_E E
  refine g_putI X (by decide +kernel) fp11_169 ho eh1 ?_
  refine g_aload_n (n := 0) X (by decide +kernel) 0 rfl ?_
  refine g_iload_n (n := 1) X (by decide +kernel) 1 rfl ?_
  obtain ⟨y4, h3, e2, E⟩ := bd_E E
  refine g_callV1 (st := []) X [.int a1] (by decide +kernel) ml11_531 ho rfl rfl (by decide) (Nat.le_of_ble_eq_true rfl) (c11_hasRun hK o a1 h1 ho e2) ?_
  rcases it_E E with ⟨c5, E⟩ | ⟨c5, E⟩
  · refine g_if_ne_f (off := 6) (tgt := 16) X (by decide +kernel) (by decide) (fun z => z c5) ?_
    refine g_bipush (n := -2) (x := (-2 : Int32)) X (by decide +kernel) (by decide) ?_
    obtain ⟨rfl, rfl⟩ := rt_E E
    exact g_ireturn X (by decide +kernel)
  · refine g_if_ne_t (off := 6) (tgt := 16) X (by decide +kernel) (by decide) c5 ?_
    refine g_iload_n (n := 2) X (by decide +kernel) 2 rfl ?_
    refine g_iconst (n := -1) (x := (-1 : Int32)) X (by decide +kernel) (by decide) ?_
    rcases it_E E with ⟨c6, E⟩ | ⟨c6, E⟩
    · refine g_icmp_ne_f (off := 17) (tgt := 35) X (by decide +kernel) (by decide) (fun z => z c6) ?_
      refine g_iload_n (n := 3) X (by decide +kernel) 3 rfl ?_
      rcases it_E E with ⟨c7, E⟩ | ⟨c7, E⟩
      · refine g_if_ne_f (off := 10) (tgt := 32) X (by decide +kernel) (by decide) (fun z => z c7) ?_
        refine g_aload_n (n := 0) X (by decide +kernel) 0 rfl ?_
        obtain ⟨y9, e8, E⟩ := bp_E E
        refine g_callV1 (st := []) X [] (by decide +kernel) ml11_534 ho rfl rfl (by decide) (Nat.le_of_ble_eq_true rfl) (c11_deeds hK o h3 ho e8) ?_
        refine g_goto (off := 5) (tgt := 34) X (by decide +kernel) (by decide) ?_
        obtain ⟨rfl, rfl⟩ := rt_E E
        exact g_ireturn X (by decide +kernel)
      · refine g_if_ne_t (off := 10) (tgt := 32) X (by decide +kernel) (by decide) c7 ?_
        refine g_bipush (n := -2) (x := (-2 : Int32)) X (by decide +kernel) (by decide) ?_
        obtain ⟨rfl, rfl⟩ := rt_E E
        exact g_ireturn X (by decide +kernel)
    · refine g_icmp_ne_t (off := 17) (tgt := 35) X (by decide +kernel) (by decide) c6 ?_
      refine g_iload_n (n := 2) X (by decide +kernel) 2 rfl ?_
      refine g_iconst (n := 0) (x := (0 : Int32)) X (by decide +kernel) (by decide) ?_
      refine g_aload_n (n := 0) X (by decide +kernel) 0 rfl ?_
      obtain ⟨y11, e10, E⟩ := bp_E E
      refine g_callV1 (st := [.int (0 : Int32), .int a2]) X [] (by decide +kernel) ml11_534 ho rfl rfl (by decide) (Nat.le_of_ble_eq_true rfl) (c11_deeds hK o h3 ho e10) ?_
      refine g_iconst (n := 1) (x := (1 : Int32)) X (by decide +kernel) (by decide) ?_
      refine g_isub X (by decide +kernel) ?_
      refine g_callS1 (st := []) X [.int a2, .int (0 : Int32), .int (y11 - (1 : Int32))] (by decide +kernel) ml11_181 (by decide) (Nat.le_of_ble_eq_true rfl) (c11_in hK a2 (0 : Int32) (y11 - (1 : Int32)) h3 ) ?_
      rcases it_E E with ⟨c12, E⟩ | ⟨c12, E⟩
      · refine g_if_eq_t (off := 21) (tgt := 67) X (by decide +kernel) (by decide) c12 ?_
        refine g_bipush (n := -2) (x := (-2 : Int32)) X (by decide +kernel) (by decide) ?_
        obtain ⟨rfl, rfl⟩ := rt_E E
        exact g_ireturn X (by decide +kernel)
      · refine g_if_eq_f (off := 21) (tgt := 67) X (by decide +kernel) (by decide) c12 ?_
        refine g_iload_n (n := 3) X (by decide +kernel) 3 rfl ?_
        refine g_iconst (n := 0) (x := (0 : Int32)) X (by decide +kernel) (by decide) ?_
        refine g_iconst (n := 2) (x := (2 : Int32)) X (by decide +kernel) (by decide) ?_
        refine g_callS1 (st := []) X [.int a3, .int (0 : Int32), .int (2 : Int32)] (by decide +kernel) ml11_181 (by decide) (Nat.le_of_ble_eq_true rfl) (c11_in hK a3 (0 : Int32) (2 : Int32) h3 ) ?_
        rcases it_E E with ⟨c13, E⟩ | ⟨c13, E⟩
        · refine g_if_eq_t (off := 12) (tgt := 67) X (by decide +kernel) (by decide) c13 ?_
          refine g_bipush (n := -2) (x := (-2 : Int32)) X (by decide +kernel) (by decide) ?_
          obtain ⟨rfl, rfl⟩ := rt_E E
          exact g_ireturn X (by decide +kernel)
        · refine g_if_eq_f (off := 12) (tgt := 67) X (by decide +kernel) (by decide) c13 ?_
          refine g_aload_n (n := 0) X (by decide +kernel) 0 rfl ?_
          refine g_iload_n (n := 2) X (by decide +kernel) 2 rfl ?_
          refine g_iload_n (n := 3) X (by decide +kernel) 3 rfl ?_
          obtain ⟨y15, e14, E⟩ := bp_E E
          refine g_callV1 (st := []) X [.int a2, .int a3] (by decide +kernel) ml11_537 ho rfl rfl (by decide) (Nat.le_of_ble_eq_true rfl) (c11_deedOf hK o a2 a3 h3 ho e14) ?_
          refine g_goto (off := 5) (tgt := 69) X (by decide +kernel) (by decide) ?_
          obtain ⟨rfl, rfl⟩ := rt_E E
          exact g_ireturn X (by decide +kernel)
-- AskedNamesModel.entriesAll
def f11_entriesAll_L4 (K : Ly) (n : Nat) (x0 : Nat) (h : Hp)  : Nat → Int32 → Int32 → Option (Int32)
  | 0, _, _ => none
  | k + 1, x1, x2 =>
    if (h.1 x0 23) ≤ x2 then (
    some x1)
    else (
    gd (inb x2 6) <|
    lt (x1 + (h.1 (x0 + 18) x2.toNatClampNeg)) fun x1_3 =>
    lt (x2 + (1 : Int32)) fun x2_4 =>
    f11_entriesAll_L4 K n x0 h  k x1_3 x2_4)
def f11_entriesAll (K : Ly) (n : Nat) (o : Nat) (h : Hp) : Option (Int32) :=
    f11_entriesAll_L4 K n o h n (0 : Int32) (0 : Int32)
set_option maxHeartbeats 4000000 in
set_option maxRecDepth 20000 in
theorem w11_entriesAll_L4 {Γ : CT} {sp : Sp} {K : Ly} {sz n : Nat} {v : Int32} {h : Hp}  (X : Ok Γ sp prog_13_method_91_code Rc11 3 (some (.int)) 1 (some (.int v)) sz K h) (hK : LyOk K) (x0 : Nat)  (px0 : K x0 = some (.inl 11))  : ∀ (k : Nat) (x1 : Int32) (x2 : Int32), f11_entriesAll_L4 K n x0 h  k x1 x2 = some v → Go Γ (0, 0) 4 [(0, .ref x0), (1, .int x1), (2, .int x2)] [] sz K h := by
  intro k
  induction k with
  | zero => intro x1 x2 E; cases E
  | succ k ih =>
    intro x1 x2 E
    unfold f11_entriesAll_L4 at E
    refine g_iload_n (n := 2) X (by decide +kernel) 2 rfl ?_
    refine g_aload_n (n := 0) X (by decide +kernel) 0 rfl ?_
    refine g_getI X (by decide +kernel) fl11_339 px0 ?_
    rcases it_E E with ⟨c1, E⟩ | ⟨c1, E⟩
    · refine g_icmp_ge_t (off := 18) (tgt := 27) X (by decide +kernel) (by decide) c1 ?_
      refine g_iload_n (n := 1) X (by decide +kernel) 1 rfl ?_
      obtain rfl := Option.some.inj E
      exact g_ireturn X (by decide +kernel)
    · refine g_icmp_ge_f (off := 18) (tgt := 27) X (by decide +kernel) (by decide) c1 ?_
      refine g_iload_n (n := 1) X (by decide +kernel) 1 rfl ?_
      refine g_aload_n (n := 0) X (by decide +kernel) 0 rfl ?_
      refine g_getS X (by decide +kernel) fl11_63 px0 ?_
      refine g_iload_n (n := 2) X (by decide +kernel) 2 rfl ?_
      obtain ⟨c2, E⟩ := gd_E E
      refine g_iald X (by decide +kernel) (ly hK px0 fl11_63 rfl) c2 ?_
      refine g_iadd X (by decide +kernel) ?_
      obtain ⟨x1_3, ex1_3, E⟩ := lt_E E
      refine s_istore_n (n := 1) (i := 1) X (by decide +kernel) rfl (by decide) ex1_3 (ls_next (by decide) (Or.inr rfl) (ls_here (ls_next (by decide) (Or.inr rfl) ls_end))) ?_
      obtain ⟨x2_4, ex2_4, E⟩ := lt_E E
      refine s_iinc (i := 2) (n := 1) (y := x2_4) X (by decide +kernel) 2 rfl (by decide) ex2_4 (ls_next (by decide) (Or.inr rfl) (ls_next (by decide) (Or.inr rfl) (ls_here ls_end))) ?_
      refine g_goto (off := -20) (tgt := 4) X (by decide +kernel) (by decide) ?_
      exact ih x1_3 x2_4  E
set_option maxHeartbeats 4000000 in
set_option maxRecDepth 20000 in
theorem c11_entriesAll {sp : Sp} {K : Ly} {sz n : Nat} (hK : LyOk K) (o : Nat) (h : Hp) (ho : K o = some (.inl 11)) {v : Int32} (E : f11_entriesAll K n o h = some v) : Con sp y11_entriesAll prog_13_method_91_code 3 (some (.int)) 1 0 0 [.ref o] sz K h (some (.int v)) sz K h := by
  refine Con.of (by decide) (Nat.le_of_ble_eq_true rfl) (fun Γ X _ => ?_)
  show Go Γ (0, 0) 0 [(0, .ref o)] [] sz K h
  unfold f11_entriesAll at E
  refine g_iconst (n := 0) (x := (0 : Int32)) X (by decide +kernel) (by decide) ?_
  refine s_istore_n (n := 1) (i := 1) X (by decide +kernel) rfl (by decide) rfl (ls_next (by decide) (Or.inr rfl) (ls_ins ls_end)) ?_
  refine g_iconst (n := 0) (x := (0 : Int32)) X (by decide +kernel) (by decide) ?_
  refine s_istore_n (n := 2) (i := 2) X (by decide +kernel) rfl (by decide) rfl (ls_next (by decide) (Or.inr rfl) (ls_next (by decide) (Or.inr rfl) (ls_ins ls_end))) ?_
  exact w11_entriesAll_L4 X hK o ho n (0 : Int32) (0 : Int32) E
-- AskedNamesModel.play
def f11_play_L7 (K : Ly) (n : Nat) (x0 : Nat) (x1 : Int32)   : Nat → Int32 → Hp → Option (Int32 × Hp)
  | 0, _, _ => none
  | k + 1, x2, h =>
    if x1 ≤ x2 then (
    some (x2, h))
    else (
    bp (f11_deedOf K n x0 x2 (0 : Int32) h) fun y4 =>
    bp (f11_deedOf K n x0 x2 (1 : Int32) h) fun y6 =>
    bp (f11_deedOf K n x0 x2 (2 : Int32) h) fun y8 =>
    bd (f11_does K n x0 y4 y6 y8 x2 h) fun y11 h10 =>
    if y11 = 0 then (
    some (x2, h10))
    else (
    lt (x2 + (1 : Int32)) fun x2_13 =>
    bp (f11_entriesAll K n x0 h10) fun y15 =>
    lt (sI h10 x0 76 (f11_greater (h10.1 x0 76) y15)) fun h16 =>
    f11_play_L7 K n x0 x1  k x2_13 h16))
def f11_play (K : Ly) (n : Nat) (o : Nat) (a1 : Int32) (h : Hp) : Option (Int32 × Hp) :=
    lt (sI h o 76 (0 : Int32)) fun h1 =>
    f11_play_L7 K n o a1 n (0 : Int32) h1
set_option maxHeartbeats 4000000 in
set_option maxRecDepth 20000 in
theorem w11_play_L7 {Γ : CT} {sp : Sp} {K : Ly} {sz n : Nat} {v : Int32} {hf : Hp}  (X : Ok Γ sp prog_13_method_92_code Rc11 3 (some (.int)) 12 (some (.int v)) sz K hf) (hK : LyOk K) (x0 : Nat) (x1 : Int32)  (px0 : K x0 = some (.inl 11))  : ∀ (k : Nat) (x2 : Int32) (h : Hp), f11_play_L7 K n x0 x1  k x2 h = some (v, hf) → Go Γ (0, 0) 7 [(0, .ref x0), (1, .int x1), (2, .int x2)] [] sz K h := by
  intro k
  induction k with
  | zero => intro x2 h E; cases E
  | succ k ih =>
    intro x2 h E
    unfold f11_play_L7 at E
    refine g_iload_n (n := 2) X (by decide +kernel) 2 rfl ?_
    refine g_iload_n (n := 1) X (by decide +kernel) 1 rfl ?_
    rcases it_E E with ⟨c2, E⟩ | ⟨c2, E⟩
    · refine g_icmp_ge_t (off := 50) (tgt := 59) X (by decide +kernel) (by decide) c2 ?_
      refine g_iload_n (n := 2) X (by decide +kernel) 2 rfl ?_
      obtain ⟨rfl, rfl⟩ := rt_E E
      exact g_ireturn X (by decide +kernel)
    · refine g_icmp_ge_f (off := 50) (tgt := 59) X (by decide +kernel) (by decide) c2 ?_
      refine g_aload_n (n := 0) X (by decide +kernel) 0 rfl ?_
      refine g_aload_n (n := 0) X (by decide +kernel) 0 rfl ?_
      refine g_iload_n (n := 2) X (by decide +kernel) 2 rfl ?_
      refine g_iconst (n := 0) (x := (0 : Int32)) X (by decide +kernel) (by decide) ?_
      obtain ⟨y4, e3, E⟩ := bp_E E
      refine g_callV1 (st := [.ref x0]) X [.int x2, .int (0 : Int32)] (by decide +kernel) ml11_537 px0 rfl rfl (by decide) (Nat.le_of_ble_eq_true rfl) (c11_deedOf hK x0 x2 (0 : Int32) h px0 e3) ?_
      refine g_aload_n (n := 0) X (by decide +kernel) 0 rfl ?_
      refine g_iload_n (n := 2) X (by decide +kernel) 2 rfl ?_
      refine g_iconst (n := 1) (x := (1 : Int32)) X (by decide +kernel) (by decide) ?_
      obtain ⟨y6, e5, E⟩ := bp_E E
      refine g_callV1 (st := [.int y4, .ref x0]) X [.int x2, .int (1 : Int32)] (by decide +kernel) ml11_537 px0 rfl rfl (by decide) (Nat.le_of_ble_eq_true rfl) (c11_deedOf hK x0 x2 (1 : Int32) h px0 e5) ?_
      refine g_aload_n (n := 0) X (by decide +kernel) 0 rfl ?_
      refine g_iload_n (n := 2) X (by decide +kernel) 2 rfl ?_
      refine g_iconst (n := 2) (x := (2 : Int32)) X (by decide +kernel) (by decide) ?_
      obtain ⟨y8, e7, E⟩ := bp_E E
      refine g_callV1 (st := [.int y6, .int y4, .ref x0]) X [.int x2, .int (2 : Int32)] (by decide +kernel) ml11_537 px0 rfl rfl (by decide) (Nat.le_of_ble_eq_true rfl) (c11_deedOf hK x0 x2 (2 : Int32) h px0 e7) ?_
      refine g_iload_n (n := 2) X (by decide +kernel) 2 rfl ?_
      obtain ⟨y11, h10, e9, E⟩ := bd_E E
      refine g_callV1 (st := []) X [.int y4, .int y6, .int y8, .int x2] (by decide +kernel) ml11_543 px0 rfl rfl (by decide) (Nat.le_of_ble_eq_true rfl) (c11_does hK x0 y4 y6 y8 x2 h px0 e9) ?_
      rcases it_E E with ⟨c12, E⟩ | ⟨c12, E⟩
      · refine g_if_eq_t (off := 24) (tgt := 59) X (by decide +kernel) (by decide) c12 ?_
        refine g_iload_n (n := 2) X (by decide +kernel) 2 rfl ?_
        obtain ⟨rfl, rfl⟩ := rt_E E
        exact g_ireturn X (by decide +kernel)
      · refine g_if_eq_f (off := 24) (tgt := 59) X (by decide +kernel) (by decide) c12 ?_
        obtain ⟨x2_13, ex2_13, E⟩ := lt_E E
        refine s_iinc (i := 2) (n := 1) (y := x2_13) X (by decide +kernel) 2 rfl (by decide) ex2_13 (ls_next (by decide) (Or.inr rfl) (ls_next (by decide) (Or.inr rfl) (ls_here ls_end))) ?_
        refine g_aload_n (n := 0) X (by decide +kernel) 0 rfl ?_
        refine g_aload_n (n := 0) X (by decide +kernel) 0 rfl ?_
        refine g_getI X (by decide +kernel) fl11_540 px0 ?_
        refine g_aload_n (n := 0) X (by decide +kernel) 0 rfl ?_
        obtain ⟨y15, e14, E⟩ := bp_E E
        refine g_callV1 (st := [.int (h10.1 x0 76), .ref x0]) X [] (by decide +kernel) ml11_546 px0 rfl rfl (by decide) (Nat.le_of_ble_eq_true rfl) (c11_entriesAll hK x0 h10 px0 e14) ?_
        refine g_callS1 (st := [.ref x0]) X [.int (h10.1 x0 76), .int y15] (by decide +kernel) ml11_243 (by decide) (Nat.le_of_ble_eq_true rfl) (c11_greater hK (h10.1 x0 76) y15 h10 ) ?_
        obtain ⟨h16, eh16, E⟩ := lt_E E
        refine g_putI X (by decide +kernel) fp11_540 px0 eh16 ?_
        refine g_goto (off := -49) (tgt := 7) X (by decide +kernel) (by decide) ?_
        exact ih x2_13 h16  E
set_option maxHeartbeats 4000000 in
set_option maxRecDepth 20000 in
theorem c11_play {sp : Sp} {K : Ly} {sz n : Nat} (hK : LyOk K) (o : Nat) (a1 : Int32) (h : Hp) (ho : K o = some (.inl 11)) {v : Int32} {hf : Hp} (E : f11_play K n o a1 h = some (v, hf)) : Con sp y11_play prog_13_method_92_code 3 (some (.int)) 12 0 0 [.ref o, .int a1] sz K h (some (.int v)) sz K hf := by
  refine Con.of (by decide) (Nat.le_of_ble_eq_true rfl) (fun Γ X _ => ?_)
  show Go Γ (0, 0) 0 [(0, .ref o), (1, .int a1)] [] sz K h
  unfold f11_play at E
  refine g_aload_n (n := 0) X (by decide +kernel) 0 rfl ?_
  refine g_iconst (n := 0) (x := (0 : Int32)) X (by decide +kernel) (by decide) ?_
  obtain ⟨h1, eh1, E⟩ := lt_E E
  refine g_putI X (by decide +kernel) fp11_540 ho eh1 ?_
  refine g_iconst (n := 0) (x := (0 : Int32)) X (by decide +kernel) (by decide) ?_
  refine s_istore_n (n := 2) (i := 2) X (by decide +kernel) rfl (by decide) rfl (ls_next (by decide) (Or.inr rfl) (ls_next (by decide) (Or.inr rfl) (ls_ins ls_end))) ?_
  exact w11_play_L7 X hK o a1 ho n (0 : Int32) h1 E
-- AskedNamesModel.lay
def f11_lay (K : Ly) (n : Nat) (o : Nat) (a1 : Int32) (a2 : Int32) (h : Hp) : Option (Int32 × Hp) :=
    bd (f11_hasRun K n o a2 h) fun y3 h2 =>
    if y3 = 0 then (
    some ((0 : Int32), h2))
    else (
    bd (f11_hasNet K n o a1 h2) fun y7 h6 =>
    if y7 = 0 then (
    some ((0 : Int32), h6))
    else (
    bp (f11_begin K n o (-1 : Int32) h6) fun h10 =>
    some ((1 : Int32), h10)))
set_option maxHeartbeats 4000000 in
set_option maxRecDepth 20000 in
theorem c11_lay {sp : Sp} {K : Ly} {sz n : Nat} (hK : LyOk K) (o : Nat) (a1 : Int32) (a2 : Int32) (h : Hp) (ho : K o = some (.inl 11)) {v : Int32} {hf : Hp} (E : f11_lay K n o a1 a2 h = some (v, hf)) : Con sp y11_lay prog_13_method_93_code 3 (some (.boolean)) 5 0 0 [.ref o, .int a1, .int a2] sz K h (some (.int v)) sz K hf := by
  refine Con.of (by decide) (Nat.le_of_ble_eq_true rfl) (fun Γ X _ => ?_)
  show Go Γ (0, 0) 0 [(0, .ref o), (1, .int a1), (2, .int a2)] [] sz K h
  unfold f11_lay at E
  refine g_aload_n (n := 0) X (by decide +kernel) 0 rfl ?_
  refine g_iload_n (n := 2) X (by decide +kernel) 2 rfl ?_
  obtain ⟨y3, h2, e1, E⟩ := bd_E E
  refine g_callV1 (st := []) X [.int a2] (by decide +kernel) ml11_531 ho rfl rfl (by decide) (Nat.le_of_ble_eq_true rfl) (c11_hasRun hK o a2 h ho e1) ?_
  rcases it_E E with ⟨c4, E⟩ | ⟨c4, E⟩
  · refine g_if_eq_t (off := 11) (tgt := 16) X (by decide +kernel) (by decide) c4 ?_
    refine g_iconst (n := 0) (x := (0 : Int32)) X (by decide +kernel) (by decide) ?_
    obtain ⟨rfl, rfl⟩ := rt_E E
    exact g_zreturn X (by decide +kernel) rfl
  · refine g_if_eq_f (off := 11) (tgt := 16) X (by decide +kernel) (by decide) c4 ?_
    refine g_aload_n (n := 0) X (by decide +kernel) 0 rfl ?_
    refine g_iload_n (n := 1) X (by decide +kernel) 1 rfl ?_
    obtain ⟨y7, h6, e5, E⟩ := bd_E E
    refine g_callV1 (st := []) X [.int a1] (by decide +kernel) ml11_372 ho rfl rfl (by decide) (Nat.le_of_ble_eq_true rfl) (c11_hasNet hK o a1 h2 ho e5) ?_
    rcases it_E E with ⟨c8, E⟩ | ⟨c8, E⟩
    · refine g_if_ne_f (off := 5) (tgt := 18) X (by decide +kernel) (by decide) (fun z => z c8) ?_
      refine g_iconst (n := 0) (x := (0 : Int32)) X (by decide +kernel) (by decide) ?_
      obtain ⟨rfl, rfl⟩ := rt_E E
      exact g_zreturn X (by decide +kernel) rfl
    · refine g_if_ne_t (off := 5) (tgt := 18) X (by decide +kernel) (by decide) c8 ?_
      refine g_aload_n (n := 0) X (by decide +kernel) 0 rfl ?_
      refine g_iconst (n := -1) (x := (-1 : Int32)) X (by decide +kernel) (by decide) ?_
      obtain ⟨h10, e9, E⟩ := bp_E E
      refine g_callV0 (st := []) X [.int (-1 : Int32)] (by decide +kernel) ml11_549 ho rfl rfl (by decide) (Nat.le_of_ble_eq_true rfl) (c11_begin hK o (-1 : Int32) h6 ho e9) ?_
      refine g_iconst (n := 1) (x := (1 : Int32)) X (by decide +kernel) (by decide) ?_
      obtain ⟨rfl, rfl⟩ := rt_E E
      exact g_zreturn X (by decide +kernel) rfl
-- AskedNamesModel.stop
def f11_stop (K : Ly) (n : Nat) (o : Nat) (a1 : Int32) (a2 : Int32) (h : Hp) : Option (Int32 × Hp) :=
    lt (sI h o 0 (0 : Int32)) fun h1 =>
    bd (f11_lay K n o a1 a2 h1) fun y4 h3 =>
    if y4 = 0 then (
    some ((-1 : Int32), h3))
    else (
    bp (f11_deeds K n o h3) fun y7 =>
    bd (f11_play K n o y7 h3) fun y10 h9 =>
    some (y10, h9))
set_option maxHeartbeats 4000000 in
set_option maxRecDepth 20000 in
theorem c11_stop {sp : Sp} {K : Ly} {sz n : Nat} (hK : LyOk K) (o : Nat) (a1 : Int32) (a2 : Int32) (h : Hp) (ho : K o = some (.inl 11)) {v : Int32} {hf : Hp} (E : f11_stop K n o a1 a2 h = some (v, hf)) : Con sp y11_stop prog_13_method_94_code 3 (some (.int)) 13 0 0 [.ref o, .int a1, .int a2] sz K h (some (.int v)) sz K hf := by
  refine Con.of (by decide) (Nat.le_of_ble_eq_true rfl) (fun Γ X _ => ?_)
  show Go Γ (0, 0) 0 [(0, .ref o), (1, .int a1), (2, .int a2)] [] sz K h
  unfold f11_stop at E
  refine g_aload_n (n := 0) X (by decide +kernel) 0 rfl ?_
  refine g_iconst (n := 0) (x := (0 : Int32)) X (by decide +kernel) (by decide) ?_
  obtain ⟨h1, eh1, E⟩ := lt_E E
  refine g_putI X (by decide +kernel) fp11_169 ho eh1 ?_
  refine g_aload_n (n := 0) X (by decide +kernel) 0 rfl ?_
  refine g_iload_n (n := 1) X (by decide +kernel) 1 rfl ?_
  refine g_iload_n (n := 2) X (by decide +kernel) 2 rfl ?_
  obtain ⟨y4, h3, e2, E⟩ := bd_E E
  refine g_callV1 (st := []) X [.int a1, .int a2] (by decide +kernel) ml11_552 ho rfl rfl (by decide) (Nat.le_of_ble_eq_true rfl) (c11_lay hK o a1 a2 h1 ho e2) ?_
  rcases it_E E with ⟨c5, E⟩ | ⟨c5, E⟩
  · refine g_if_eq_t (off := 14) (tgt := 25) X (by decide +kernel) (by decide) c5 ?_
    refine g_iconst (n := -1) (x := (-1 : Int32)) X (by decide +kernel) (by decide) ?_
    obtain ⟨rfl, rfl⟩ := rt_E E
    exact g_ireturn X (by decide +kernel)
  · refine g_if_eq_f (off := 14) (tgt := 25) X (by decide +kernel) (by decide) c5 ?_
    refine g_aload_n (n := 0) X (by decide +kernel) 0 rfl ?_
    refine g_aload_n (n := 0) X (by decide +kernel) 0 rfl ?_
    obtain ⟨y7, e6, E⟩ := bp_E E
    refine g_callV1 (st := [.ref o]) X [] (by decide +kernel) ml11_534 ho rfl rfl (by decide) (Nat.le_of_ble_eq_true rfl) (c11_deeds hK o h3 ho e6) ?_
    obtain ⟨y10, h9, e8, E⟩ := bd_E E
    refine g_callV1 (st := []) X [.int y7] (by decide +kernel) ml11_555 ho rfl rfl (by decide) (Nat.le_of_ble_eq_true rfl) (c11_play hK o y7 h3 ho e8) ?_
    refine g_goto (off := 4) (tgt := 26) X (by decide +kernel) (by decide) ?_
    obtain ⟨rfl, rfl⟩ := rt_E E
    exact g_ireturn X (by decide +kernel)
-- AskedNamesModel.layState
def f11_layState (K : Ly) (n : Nat) (o : Nat) (a1 : Int32) (a2 : Int32) (a3 : Int32) (h : Hp) : Option (Int32 × Hp) :=
    bd (f11_lay K n o a1 a2 h) fun y3 h2 =>
    if y3 = 0 then (
    some ((0 : Int32), h2))
    else (
    bp (f11_deeds K n o h2) fun y6 =>
    if (f11_in a3 (0 : Int32) y6) = 0 then (
    some ((0 : Int32), h2))
    else (
    bd (f11_play K n o a3 h2) fun y10 h9 =>
    some ((if y10 = a3 then (1 : Int32) else (0 : Int32)), h9)))
set_option maxHeartbeats 4000000 in
set_option maxRecDepth 20000 in
theorem c11_layState {sp : Sp} {K : Ly} {sz n : Nat} (hK : LyOk K) (o : Nat) (a1 : Int32) (a2 : Int32) (a3 : Int32) (h : Hp) (ho : K o = some (.inl 11)) {v : Int32} {hf : Hp} (E : f11_layState K n o a1 a2 a3 h = some (v, hf)) : Con sp y11_layState prog_13_method_95_code 4 (some (.boolean)) 13 0 0 [.ref o, .int a1, .int a2, .int a3] sz K h (some (.int v)) sz K hf := by
  refine Con.of (by decide) (Nat.le_of_ble_eq_true rfl) (fun Γ X _ => ?_)
  show Go Γ (0, 0) 0 [(0, .ref o), (1, .int a1), (2, .int a2), (3, .int a3)] [] sz K h
  unfold f11_layState at E
  refine g_aload_n (n := 0) X (by decide +kernel) 0 rfl ?_
  refine g_iload_n (n := 1) X (by decide +kernel) 1 rfl ?_
  refine g_iload_n (n := 2) X (by decide +kernel) 2 rfl ?_
  obtain ⟨y3, h2, e1, E⟩ := bd_E E
  refine g_callV1 (st := []) X [.int a1, .int a2] (by decide +kernel) ml11_552 ho rfl rfl (by decide) (Nat.le_of_ble_eq_true rfl) (c11_lay hK o a1 a2 h ho e1) ?_
  rcases it_E E with ⟨c4, E⟩ | ⟨c4, E⟩
  · refine g_if_eq_t (off := 28) (tgt := 34) X (by decide +kernel) (by decide) c4 ?_
    refine g_iconst (n := 0) (x := (0 : Int32)) X (by decide +kernel) (by decide) ?_
    obtain ⟨rfl, rfl⟩ := rt_E E
    exact g_zreturn X (by decide +kernel) rfl
  · refine g_if_eq_f (off := 28) (tgt := 34) X (by decide +kernel) (by decide) c4 ?_
    refine g_iload_n (n := 3) X (by decide +kernel) 3 rfl ?_
    refine g_iconst (n := 0) (x := (0 : Int32)) X (by decide +kernel) (by decide) ?_
    refine g_aload_n (n := 0) X (by decide +kernel) 0 rfl ?_
    obtain ⟨y6, e5, E⟩ := bp_E E
    refine g_callV1 (st := [.int (0 : Int32), .int a3]) X [] (by decide +kernel) ml11_534 ho rfl rfl (by decide) (Nat.le_of_ble_eq_true rfl) (c11_deeds hK o h2 ho e5) ?_
    refine g_callS1 (st := []) X [.int a3, .int (0 : Int32), .int y6] (by decide +kernel) ml11_181 (by decide) (Nat.le_of_ble_eq_true rfl) (c11_in hK a3 (0 : Int32) y6 h2 ) ?_
    rcases it_E E with ⟨c7, E⟩ | ⟨c7, E⟩
    · refine g_if_eq_t (off := 16) (tgt := 34) X (by decide +kernel) (by decide) c7 ?_
      refine g_iconst (n := 0) (x := (0 : Int32)) X (by decide +kernel) (by decide) ?_
      obtain ⟨rfl, rfl⟩ := rt_E E
      exact g_zreturn X (by decide +kernel) rfl
    · refine g_if_eq_f (off := 16) (tgt := 34) X (by decide +kernel) (by decide) c7 ?_
      refine g_aload_n (n := 0) X (by decide +kernel) 0 rfl ?_
      refine g_iload_n (n := 3) X (by decide +kernel) 3 rfl ?_
      obtain ⟨y10, h9, e8, E⟩ := bd_E E
      refine g_callV1 (st := []) X [.int a3] (by decide +kernel) ml11_555 ho rfl rfl (by decide) (Nat.le_of_ble_eq_true rfl) (c11_play hK o a3 h2 ho e8) ?_
      refine g_iload_n (n := 3) X (by decide +kernel) 3 rfl ?_
      have hJ : Go Γ (0, 0) 35 [] [.int (if y10 = a3 then (1 : Int32) else (0 : Int32))] sz K h9 := by
        obtain ⟨rfl, rfl⟩ := rt_E E
        exact g_zreturn X (by decide +kernel) (by (repeat' split) <;> rfl)
      clear E
      by_cases c11 : y10 = a3
      · rw [if_pos c11] at hJ
        refine g_icmp_ne_f (off := 7) (tgt := 34) X (by decide +kernel) (by decide) (fun z => z c11) ?_
        refine g_iconst (n := 1) (x := (1 : Int32)) X (by decide +kernel) (by decide) ?_
        refine g_goto (off := 4) (tgt := 35) X (by decide +kernel) (by decide) ?_
        refine g_sub [] rfl ?_
        exact hJ
      · rw [if_neg c11] at hJ
        refine g_icmp_ne_t (off := 7) (tgt := 34) X (by decide +kernel) (by decide) c11 ?_
        refine g_iconst (n := 0) (x := (0 : Int32)) X (by decide +kernel) (by decide) ?_
        refine g_sub [] rfl ?_
        exact hJ
-- AskedNamesModel.onesL
def f11_onesL_J24 (K : Ly) (n : Nat) (r4 : Int32 → Int32 → Option (Int32)) (x0 : Int64) (x3 : Int32) (s0 : Int32) (s1 : Int32) (h : Hp) : Option (Int32) :=
    lt (s0 + s1) fun x2_3 =>
    lt (x3 + (1 : Int32)) fun x3_4 =>
    r4 x2_3 x3_4
def f11_onesL_L4 (K : Ly) (n : Nat) (x0 : Int64) (h : Hp)  : Nat → Int32 → Int32 → Option (Int32)
  | 0, _, _ => none
  | k + 1, x2, x3 =>
    if (64 : Int32) ≤ x3 then (
    some x2)
    else (
    f11_onesL_J24 K n (f11_onesL_L4 K n x0 h  k) x0 x3 x2 (if (f11_hasL x0 x3) = 0 then (0 : Int32) else (1 : Int32)) h)
def f11_onesL (K : Ly) (n : Nat) (a0 : Int64) (h : Hp) : Option (Int32) :=
    f11_onesL_L4 K n a0 h n (0 : Int32) (0 : Int32)
set_option maxHeartbeats 4000000 in
set_option maxRecDepth 20000 in
theorem w11_onesL_J24 {Γ : CT} {sp : Sp} {K : Ly} {sz n : Nat} {v : Int32} {h : Hp}  {r4 : Int32 → Int32 → Option (Int32)}  (X : Ok Γ sp prog_13_method_96_code Rc11 4 (some (.int)) 2 (some (.int v)) sz K h) (hK : LyOk K) (x0 : Int64) (x3 : Int32) (s0 : Int32) (s1 : Int32)  (hr4 : ∀ (x2 : Int32) (x3 : Int32), r4 x2 x3 = some v → Go Γ (0, 0) 4 [(0, .long x0), (2, .int x2), (3, .int x3)] [] sz K h)  (E : f11_onesL_J24 K n r4 x0 x3 s0 s1 h = some v) : Go Γ (0, 0) 24 [(0, .long x0), (3, .int x3)] [.int s1, .int s0] sz K h := by
  unfold f11_onesL_J24 at E
  refine g_iadd X (by decide +kernel) ?_
  obtain ⟨x2_3, ex2_3, E⟩ := lt_E E
  refine s_istore_n (n := 2) (i := 2) X (by decide +kernel) rfl (by decide) ex2_3 (ls_next (by decide) (Or.inl (by decide)) (ls_ins (ls_next (by decide) (Or.inr rfl) ls_end))) ?_
  obtain ⟨x3_4, ex3_4, E⟩ := lt_E E
  refine s_iinc (i := 3) (n := 1) (y := x3_4) X (by decide +kernel) 2 rfl (by decide) ex3_4 (ls_next (by decide) (Or.inl (by decide)) (ls_next (by decide) (Or.inr rfl) (ls_here ls_end))) ?_
  refine g_goto (off := -25) (tgt := 4) X (by decide +kernel) (by decide) ?_
  exact hr4 x2_3 x3_4  E
set_option maxHeartbeats 4000000 in
set_option maxRecDepth 20000 in
theorem w11_onesL_L4 {Γ : CT} {sp : Sp} {K : Ly} {sz n : Nat} {v : Int32} {h : Hp}  (X : Ok Γ sp prog_13_method_96_code Rc11 4 (some (.int)) 2 (some (.int v)) sz K h) (hK : LyOk K) (x0 : Int64)    : ∀ (k : Nat) (x2 : Int32) (x3 : Int32), f11_onesL_L4 K n x0 h  k x2 x3 = some v → Go Γ (0, 0) 4 [(0, .long x0), (2, .int x2), (3, .int x3)] [] sz K h := by
  intro k
  induction k with
  | zero => intro x2 x3 E; cases E
  | succ k ih =>
    intro x2 x3 E
    unfold f11_onesL_L4 at E
    refine g_iload_n (n := 3) X (by decide +kernel) 2 rfl ?_
    refine g_bipush (n := 64) (x := (64 : Int32)) X (by decide +kernel) (by decide) ?_
    rcases it_E E with ⟨c1, E⟩ | ⟨c1, E⟩
    · refine g_icmp_ge_t (off := 25) (tgt := 32) X (by decide +kernel) (by decide) c1 ?_
      refine g_iload_n (n := 2) X (by decide +kernel) 1 rfl ?_
      obtain rfl := Option.some.inj E
      exact g_ireturn X (by decide +kernel)
    · refine g_icmp_ge_f (off := 25) (tgt := 32) X (by decide +kernel) (by decide) c1 ?_
      refine g_iload_n (n := 2) X (by decide +kernel) 1 rfl ?_
      refine g_lload_n (n := 0) X (by decide +kernel) 0 rfl ?_
      refine g_iload_n (n := 3) X (by decide +kernel) 2 rfl ?_
      refine g_callS1 (st := [.int x2]) X [.long x0, .int x3] (by decide +kernel) ml11_475 (by decide) (Nat.le_of_ble_eq_true rfl) (c11_hasL hK x0 x3 h ) ?_
      have hJ : Go Γ (0, 0) 24 [(0, .long x0), (3, .int x3)] [.int (if (f11_hasL x0 x3) = 0 then (0 : Int32) else (1 : Int32)), .int x2] sz K h := by
        exact w11_onesL_J24 X hK x0 x3 x2 (if (f11_hasL x0 x3) = 0 then (0 : Int32) else (1 : Int32)) ih E
      clear E
      by_cases c2 : (f11_hasL x0 x3) = 0
      · rw [if_pos c2] at hJ
        refine g_if_eq_t (off := 7) (tgt := 23) X (by decide +kernel) (by decide) c2 ?_
        refine g_iconst (n := 0) (x := (0 : Int32)) X (by decide +kernel) (by decide) ?_
        refine g_sub [0, 2] rfl ?_
        exact hJ
      · rw [if_neg c2] at hJ
        refine g_if_eq_f (off := 7) (tgt := 23) X (by decide +kernel) (by decide) c2 ?_
        refine g_iconst (n := 1) (x := (1 : Int32)) X (by decide +kernel) (by decide) ?_
        refine g_goto (off := 4) (tgt := 24) X (by decide +kernel) (by decide) ?_
        refine g_sub [0, 2] rfl ?_
        exact hJ
set_option maxHeartbeats 4000000 in
set_option maxRecDepth 20000 in
theorem c11_onesL {sp : Sp} {K : Ly} {sz n : Nat} (hK : LyOk K) (a0 : Int64) (h : Hp)  {v : Int32} (E : f11_onesL K n a0 h = some v) : Con sp y11_onesL prog_13_method_96_code 4 (some (.int)) 2 0 0 [.long a0] sz K h (some (.int v)) sz K h := by
  refine Con.of (by decide) (Nat.le_of_ble_eq_true rfl) (fun Γ X _ => ?_)
  show Go Γ (0, 0) 0 [(0, .long a0)] [] sz K h
  unfold f11_onesL at E
  refine g_iconst (n := 0) (x := (0 : Int32)) X (by decide +kernel) (by decide) ?_
  refine s_istore_n (n := 2) (i := 2) X (by decide +kernel) rfl (by decide) rfl (ls_next (by decide) (Or.inl (by decide)) (ls_ins ls_end)) ?_
  refine g_iconst (n := 0) (x := (0 : Int32)) X (by decide +kernel) (by decide) ?_
  refine s_istore_n (n := 3) (i := 3) X (by decide +kernel) rfl (by decide) rfl (ls_next (by decide) (Or.inl (by decide)) (ls_next (by decide) (Or.inr rfl) (ls_ins ls_end))) ?_
  exact w11_onesL_L4 X hK a0 n (0 : Int32) (0 : Int32) E
-- AskedNamesModel.ofState
def f11_ofState_J74 (K : Ly) (n : Nat)  (x0 : Nat) (x2 : Int32) (s0 : Int32) (h : Hp) : Option (Int32) :=
    if s0 = (0 : Int32) then (
    some (h.1 x0 27))
    else if s0 = (1 : Int32) then (
    some (h.1 x0 45))
    else if s0 = (2 : Int32) then (
    bp (f11_entriesAll K n x0 h) fun y17 =>
    some y17)
    else if s0 = (3 : Int32) then (
    bp (f11_ones K n (h.1 x0 26) h) fun y20 =>
    some y20)
    else if s0 = (10 : Int32) then (
    bp (f11_isNode K n x0 x2 h) fun y23 =>
    if y23 = 0 then (
    some (-2 : Int32))
    else (
    gd (inb x2 6) <|
    some (h.1 (x0 + 18) x2.toNatClampNeg)))
    else if s0 = (20 : Int32) then (
    bp (f11_isNode K n x0 x2 h) fun y28 =>
    if y28 = 0 then (
    some (-2 : Int32))
    else (
    gd (inb x2 6) <|
    some (h.1 (x0 + 14) x2.toNatClampNeg)))
    else if s0 = (30 : Int32) then (
    bp (f11_isNode K n x0 x2 h) fun y33 =>
    if y33 = 0 then (
    some (-2 : Int32))
    else (
    gd (inb x2 6) <|
    bp (f11_onesL K n (h.2.1 (x0 + 12) x2.toNatClampNeg) h) fun y37 =>
    some y37))
    else (
    some (-2 : Int32))
def f11_ofState (K : Ly) (n : Nat) (o : Nat) (a1 : Int32) (h : Hp) : Option (Int32) :=
    if a1 < (100 : Int32) then (
    lt (a1 - a1 / (10 : Int32) * (10 : Int32)) fun x2_2 =>
    f11_ofState_J74 K n o x2_2 (if (10 : Int32) ≤ a1 then ((10 : Int32) * (a1 / (10 : Int32))) else a1) h)
    else (
    lt ((a1 - (100 : Int32)) / (10 : Int32)) fun x2_4 =>
    lt (a1 - a1 / (10 : Int32) * (10 : Int32)) fun x3_5 =>
    bp (f11_isNode K n o x2_4 h) fun y7 =>
    if y7 = 0 then (
    some (-2 : Int32))
    else (
    bp (f11_isNode K n o x3_5 h) fun y10 =>
    if y10 = 0 then (
    some (-2 : Int32))
    else (
    gd (inb (((6 : Int32) * x2_4) + x3_5) 36) <|
    some (h.1 (o + 13) (((6 : Int32) * x2_4) + x3_5).toNatClampNeg))))
set_option maxHeartbeats 4000000 in
set_option maxRecDepth 20000 in
theorem w11_ofState_J74 {Γ : CT} {sp : Sp} {K : Ly} {sz n : Nat} {v : Int32} {h : Hp}   (X : Ok Γ sp prog_13_method_97_code Rc11 4 (some (.int)) 3 (some (.int v)) sz K h) (hK : LyOk K) (x0 : Nat) (x2 : Int32) (s0 : Int32)   (px0 : K x0 = some (.inl 11)) (E : f11_ofState_J74 K n x0 x2 s0 h = some v) : Go Γ (0, 0) 74 [(0, .ref x0), (2, .int x2)] [.int s0] sz K h := by
  unfold f11_ofState_J74 at E
  rcases it_E E with ⟨c13, E⟩ | ⟨c13, E⟩
  · refine g_lookup (dflt := 152) (ps := #[(0, 66), (1, 71), (2, 76), (3, 81), (10, 89), (20, 109), (30, 129)]) (len := 66) (off := 66) (tgt := 140) X (by decide +kernel) (by decide) (by rw [c13]; decide) (by decide) ?_
    refine g_aload_n (n := 0) X (by decide +kernel) 0 rfl ?_
    refine g_getI X (by decide +kernel) fl11_384 px0 ?_
    obtain rfl := Option.some.inj E
    exact g_ireturn X (by decide +kernel)
  · rcases it_E E with ⟨c14, E⟩ | ⟨c14, E⟩
    · refine g_lookup (dflt := 152) (ps := #[(0, 66), (1, 71), (2, 76), (3, 81), (10, 89), (20, 109), (30, 129)]) (len := 66) (off := 71) (tgt := 145) X (by decide +kernel) (by decide) (by rw [c14]; decide) (by decide) ?_
      refine g_aload_n (n := 0) X (by decide +kernel) 0 rfl ?_
      refine g_getI X (by decide +kernel) fl11_387 px0 ?_
      obtain rfl := Option.some.inj E
      exact g_ireturn X (by decide +kernel)
    · rcases it_E E with ⟨c15, E⟩ | ⟨c15, E⟩
      · refine g_lookup (dflt := 152) (ps := #[(0, 66), (1, 71), (2, 76), (3, 81), (10, 89), (20, 109), (30, 129)]) (len := 66) (off := 76) (tgt := 150) X (by decide +kernel) (by decide) (by rw [c15]; decide) (by decide) ?_
        refine g_aload_n (n := 0) X (by decide +kernel) 0 rfl ?_
        obtain ⟨y17, e16, E⟩ := bp_E E
        refine g_callV1 (st := []) X [] (by decide +kernel) ml11_546 px0 rfl rfl (by decide) (Nat.le_of_ble_eq_true rfl) (c11_entriesAll hK x0 h px0 e16) ?_
        obtain rfl := Option.some.inj E
        exact g_ireturn X (by decide +kernel)
      · rcases it_E E with ⟨c18, E⟩ | ⟨c18, E⟩
        · refine g_lookup (dflt := 152) (ps := #[(0, 66), (1, 71), (2, 76), (3, 81), (10, 89), (20, 109), (30, 129)]) (len := 66) (off := 81) (tgt := 155) X (by decide +kernel) (by decide) (by rw [c18]; decide) (by decide) ?_
          refine g_aload_n (n := 0) X (by decide +kernel) 0 rfl ?_
          refine g_getI X (by decide +kernel) fl11_351 px0 ?_
          obtain ⟨y20, e19, E⟩ := bp_E E
          refine g_callS1 (st := []) X [.int (h.1 x0 26)] (by decide +kernel) ml11_558 (by decide) (Nat.le_of_ble_eq_true rfl) (c11_ones hK (h.1 x0 26) h  e19) ?_
          obtain rfl := Option.some.inj E
          exact g_ireturn X (by decide +kernel)
        · rcases it_E E with ⟨c21, E⟩ | ⟨c21, E⟩
          · refine g_lookup (dflt := 152) (ps := #[(0, 66), (1, 71), (2, 76), (3, 81), (10, 89), (20, 109), (30, 129)]) (len := 66) (off := 89) (tgt := 163) X (by decide +kernel) (by decide) (by rw [c21]; decide) (by decide) ?_
            refine g_aload_n (n := 0) X (by decide +kernel) 0 rfl ?_
            refine g_iload_n (n := 2) X (by decide +kernel) 1 rfl ?_
            obtain ⟨y23, e22, E⟩ := bp_E E
            refine g_callV1 (st := []) X [.int x2] (by decide +kernel) ml11_375 px0 rfl rfl (by decide) (Nat.le_of_ble_eq_true rfl) (c11_isNode hK x0 x2 h px0 e22) ?_
            rcases it_E E with ⟨c24, E⟩ | ⟨c24, E⟩
            · refine g_if_eq_t (off := 12) (tgt := 180) X (by decide +kernel) (by decide) c24 ?_
              refine g_bipush (n := -2) (x := (-2 : Int32)) X (by decide +kernel) (by decide) ?_
              obtain rfl := Option.some.inj E
              exact g_ireturn X (by decide +kernel)
            · refine g_if_eq_f (off := 12) (tgt := 180) X (by decide +kernel) (by decide) c24 ?_
              refine g_aload_n (n := 0) X (by decide +kernel) 0 rfl ?_
              refine g_getS X (by decide +kernel) fl11_63 px0 ?_
              refine g_iload_n (n := 2) X (by decide +kernel) 1 rfl ?_
              obtain ⟨c25, E⟩ := gd_E E
              refine g_iald X (by decide +kernel) (ly hK px0 fl11_63 rfl) c25 ?_
              refine g_goto (off := 5) (tgt := 182) X (by decide +kernel) (by decide) ?_
              obtain rfl := Option.some.inj E
              exact g_ireturn X (by decide +kernel)
          · rcases it_E E with ⟨c26, E⟩ | ⟨c26, E⟩
            · refine g_lookup (dflt := 152) (ps := #[(0, 66), (1, 71), (2, 76), (3, 81), (10, 89), (20, 109), (30, 129)]) (len := 66) (off := 109) (tgt := 183) X (by decide +kernel) (by decide) (by rw [c26]; decide) (by decide) ?_
              refine g_aload_n (n := 0) X (by decide +kernel) 0 rfl ?_
              refine g_iload_n (n := 2) X (by decide +kernel) 1 rfl ?_
              obtain ⟨y28, e27, E⟩ := bp_E E
              refine g_callV1 (st := []) X [.int x2] (by decide +kernel) ml11_375 px0 rfl rfl (by decide) (Nat.le_of_ble_eq_true rfl) (c11_isNode hK x0 x2 h px0 e27) ?_
              rcases it_E E with ⟨c29, E⟩ | ⟨c29, E⟩
              · refine g_if_eq_t (off := 12) (tgt := 200) X (by decide +kernel) (by decide) c29 ?_
                refine g_bipush (n := -2) (x := (-2 : Int32)) X (by decide +kernel) (by decide) ?_
                obtain rfl := Option.some.inj E
                exact g_ireturn X (by decide +kernel)
              · refine g_if_eq_f (off := 12) (tgt := 200) X (by decide +kernel) (by decide) c29 ?_
                refine g_aload_n (n := 0) X (by decide +kernel) 0 rfl ?_
                refine g_getS X (by decide +kernel) fl11_51 px0 ?_
                refine g_iload_n (n := 2) X (by decide +kernel) 1 rfl ?_
                obtain ⟨c30, E⟩ := gd_E E
                refine g_iald X (by decide +kernel) (ly hK px0 fl11_51 rfl) c30 ?_
                refine g_goto (off := 5) (tgt := 202) X (by decide +kernel) (by decide) ?_
                obtain rfl := Option.some.inj E
                exact g_ireturn X (by decide +kernel)
            · rcases it_E E with ⟨c31, E⟩ | ⟨c31, E⟩
              · refine g_lookup (dflt := 152) (ps := #[(0, 66), (1, 71), (2, 76), (3, 81), (10, 89), (20, 109), (30, 129)]) (len := 66) (off := 129) (tgt := 203) X (by decide +kernel) (by decide) (by rw [c31]; decide) (by decide) ?_
                refine g_aload_n (n := 0) X (by decide +kernel) 0 rfl ?_
                refine g_iload_n (n := 2) X (by decide +kernel) 1 rfl ?_
                obtain ⟨y33, e32, E⟩ := bp_E E
                refine g_callV1 (st := []) X [.int x2] (by decide +kernel) ml11_375 px0 rfl rfl (by decide) (Nat.le_of_ble_eq_true rfl) (c11_isNode hK x0 x2 h px0 e32) ?_
                rcases it_E E with ⟨c34, E⟩ | ⟨c34, E⟩
                · refine g_if_eq_t (off := 15) (tgt := 223) X (by decide +kernel) (by decide) c34 ?_
                  refine g_bipush (n := -2) (x := (-2 : Int32)) X (by decide +kernel) (by decide) ?_
                  obtain rfl := Option.some.inj E
                  exact g_ireturn X (by decide +kernel)
                · refine g_if_eq_f (off := 15) (tgt := 223) X (by decide +kernel) (by decide) c34 ?_
                  refine g_aload_n (n := 0) X (by decide +kernel) 0 rfl ?_
                  refine g_getS X (by decide +kernel) fl11_44 px0 ?_
                  refine g_iload_n (n := 2) X (by decide +kernel) 1 rfl ?_
                  obtain ⟨c35, E⟩ := gd_E E
                  refine g_lald X (by decide +kernel) (ly hK px0 fl11_44 rfl) c35 ?_
                  obtain ⟨y37, e36, E⟩ := bp_E E
                  refine g_callS1 (st := []) X [.long (h.2.1 (x0 + 12) x2.toNatClampNeg)] (by decide +kernel) ml11_561 (by decide) (Nat.le_of_ble_eq_true rfl) (c11_onesL hK (h.2.1 (x0 + 12) x2.toNatClampNeg) h  e36) ?_
                  refine g_goto (off := 5) (tgt := 225) X (by decide +kernel) (by decide) ?_
                  obtain rfl := Option.some.inj E
                  exact g_ireturn X (by decide +kernel)
              · refine g_lookup (dflt := 152) (ps := #[(0, 66), (1, 71), (2, 76), (3, 81), (10, 89), (20, 109), (30, 129)]) (len := 66) (off := 152) (tgt := 226) X (by decide +kernel) (by decide) (lk_out (by intro q hq; simp only [List.mem_cons, List.not_mem_nil, or_false] at hq; rcases hq with rfl | rfl | rfl | rfl | rfl | rfl | rfl <;> first | exact c13 | exact c14 | exact c15 | exact c18 | exact c21 | exact c26 | exact c31)) (by decide) ?_
                refine g_bipush (n := -2) (x := (-2 : Int32)) X (by decide +kernel) (by decide) ?_
                obtain rfl := Option.some.inj E
                exact g_ireturn X (by decide +kernel)
set_option maxHeartbeats 4000000 in
set_option maxRecDepth 20000 in
theorem c11_ofState {sp : Sp} {K : Ly} {sz n : Nat} (hK : LyOk K) (o : Nat) (a1 : Int32) (h : Hp) (ho : K o = some (.inl 11)) {v : Int32} (E : f11_ofState K n o a1 h = some v) : Con sp y11_ofState prog_13_method_97_code 4 (some (.int)) 3 0 0 [.ref o, .int a1] sz K h (some (.int v)) sz K h := by
  refine Con.of (by decide) (Nat.le_of_ble_eq_true rfl) (fun Γ X _ => ?_)
  show Go Γ (0, 0) 0 [(0, .ref o), (1, .int a1)] [] sz K h
  unfold f11_ofState at E
  refine g_iload_n (n := 1) X (by decide +kernel) 1 rfl ?_
  refine g_bipush (n := 100) (x := (100 : Int32)) X (by decide +kernel) (by decide) ?_
  rcases it_E E with ⟨c1, E⟩ | ⟨c1, E⟩
  · refine g_icmp_lt_t (off := 49) (tgt := 52) X (by decide +kernel) (by decide) c1 ?_
    refine g_iload_n (n := 1) X (by decide +kernel) 1 rfl ?_
    refine g_bipush (n := 10) (x := (10 : Int32)) X (by decide +kernel) (by decide) ?_
    refine g_irem X (by decide +kernel) (by decide) ?_
    obtain ⟨x2_2, ex2_2, E⟩ := lt_E E
    refine s_istore_n (n := 2) (i := 2) X (by decide +kernel) rfl (by decide) ex2_2 (ls_next (by decide) (Or.inr rfl) (ls_next (by decide) (Or.inr rfl) (ls_ins ls_end))) ?_
    refine g_iload_n (n := 1) X (by decide +kernel) 1 rfl ?_
    refine g_bipush (n := 10) (x := (10 : Int32)) X (by decide +kernel) (by decide) ?_
    have hJ : Go Γ (0, 0) 74 [(0, .ref o), (2, .int x2_2)] [.int (if (10 : Int32) ≤ a1 then ((10 : Int32) * (a1 / (10 : Int32))) else a1)] sz K h := by
      exact w11_ofState_J74 X hK o x2_2 (if (10 : Int32) ≤ a1 then ((10 : Int32) * (a1 / (10 : Int32))) else a1) ho E
    clear E
    by_cases c3 : (10 : Int32) ≤ a1
    · rw [if_pos c3] at hJ
      refine g_icmp_ge_t (off := 7) (tgt := 67) X (by decide +kernel) (by decide) c3 ?_
      refine g_bipush (n := 10) (x := (10 : Int32)) X (by decide +kernel) (by decide) ?_
      refine g_iload_n (n := 1) X (by decide +kernel) 1 rfl ?_
      refine g_bipush (n := 10) (x := (10 : Int32)) X (by decide +kernel) (by decide) ?_
      refine g_idiv X (by decide +kernel) (by decide) ?_
      refine g_imul X (by decide +kernel) ?_
      refine g_sub [0, 2] rfl ?_
      exact hJ
    · rw [if_neg c3] at hJ
      refine g_icmp_ge_f (off := 7) (tgt := 67) X (by decide +kernel) (by decide) c3 ?_
      refine g_iload_n (n := 1) X (by decide +kernel) 1 rfl ?_
      refine g_goto (off := 10) (tgt := 74) X (by decide +kernel) (by decide) ?_
      refine g_sub [0, 2] rfl ?_
      exact hJ
  · refine g_icmp_lt_f (off := 49) (tgt := 52) X (by decide +kernel) (by decide) c1 ?_
    refine g_iload_n (n := 1) X (by decide +kernel) 1 rfl ?_
    refine g_bipush (n := 100) (x := (100 : Int32)) X (by decide +kernel) (by decide) ?_
    refine g_isub X (by decide +kernel) ?_
    refine g_bipush (n := 10) (x := (10 : Int32)) X (by decide +kernel) (by decide) ?_
    refine g_idiv X (by decide +kernel) (by decide) ?_
    obtain ⟨x2_4, ex2_4, E⟩ := lt_E E
    refine s_istore_n (n := 2) (i := 2) X (by decide +kernel) rfl (by decide) ex2_4 (ls_next (by decide) (Or.inr rfl) (ls_next (by decide) (Or.inr rfl) (ls_ins ls_end))) ?_
    refine g_iload_n (n := 1) X (by decide +kernel) 1 rfl ?_
    refine g_bipush (n := 10) (x := (10 : Int32)) X (by decide +kernel) (by decide) ?_
    refine g_irem X (by decide +kernel) (by decide) ?_
    obtain ⟨x3_5, ex3_5, E⟩ := lt_E E
    refine s_istore_n (n := 3) (i := 3) X (by decide +kernel) rfl (by decide) ex3_5 (ls_next (by decide) (Or.inr rfl) (ls_next (by decide) (Or.inr rfl) (ls_next (by decide) (Or.inr rfl) (ls_ins ls_end)))) ?_
    refine g_aload_n (n := 0) X (by decide +kernel) 0 rfl ?_
    refine g_iload_n (n := 2) X (by decide +kernel) 2 rfl ?_
    obtain ⟨y7, e6, E⟩ := bp_E E
    refine g_callV1 (st := []) X [.int x2_4] (by decide +kernel) ml11_375 ho rfl rfl (by decide) (Nat.le_of_ble_eq_true rfl) (c11_isNode hK o x2_4 h ho e6) ?_
    rcases it_E E with ⟨c8, E⟩ | ⟨c8, E⟩
    · refine g_if_eq_t (off := 25) (tgt := 49) X (by decide +kernel) (by decide) c8 ?_
      refine g_bipush (n := -2) (x := (-2 : Int32)) X (by decide +kernel) (by decide) ?_
      obtain rfl := Option.some.inj E
      exact g_ireturn X (by decide +kernel)
    · refine g_if_eq_f (off := 25) (tgt := 49) X (by decide +kernel) (by decide) c8 ?_
      refine g_aload_n (n := 0) X (by decide +kernel) 0 rfl ?_
      refine g_iload_n (n := 3) X (by decide +kernel) 3 rfl ?_
      obtain ⟨y10, e9, E⟩ := bp_E E
      refine g_callV1 (st := []) X [.int x3_5] (by decide +kernel) ml11_375 ho rfl rfl (by decide) (Nat.le_of_ble_eq_true rfl) (c11_isNode hK o x3_5 h ho e9) ?_
      rcases it_E E with ⟨c11, E⟩ | ⟨c11, E⟩
      · refine g_if_eq_t (off := 17) (tgt := 49) X (by decide +kernel) (by decide) c11 ?_
        refine g_bipush (n := -2) (x := (-2 : Int32)) X (by decide +kernel) (by decide) ?_
        obtain rfl := Option.some.inj E
        exact g_ireturn X (by decide +kernel)
      · refine g_if_eq_f (off := 17) (tgt := 49) X (by decide +kernel) (by decide) c11 ?_
        refine g_aload_n (n := 0) X (by decide +kernel) 0 rfl ?_
        refine g_getS X (by decide +kernel) fl11_48 ho ?_
        refine g_bipush (n := 6) (x := (6 : Int32)) X (by decide +kernel) (by decide) ?_
        refine g_iload_n (n := 2) X (by decide +kernel) 2 rfl ?_
        refine g_imul X (by decide +kernel) ?_
        refine g_iload_n (n := 3) X (by decide +kernel) 3 rfl ?_
        refine g_iadd X (by decide +kernel) ?_
        obtain ⟨c12, E⟩ := gd_E E
        refine g_iald X (by decide +kernel) (ly hK ho fl11_48 rfl) c12 ?_
        refine g_goto (off := 5) (tgt := 51) X (by decide +kernel) (by decide) ?_
        obtain rfl := Option.some.inj E
        exact g_ireturn X (by decide +kernel)
-- AskedNamesModel.state
def f11_state (K : Ly) (n : Nat) (o : Nat) (a1 : Int32) (a2 : Int32) (a3 : Int32) (a4 : Int32) (h : Hp) : Option (Int32 × Hp) :=
    lt (sI h o 0 (0 : Int32)) fun h1 =>
    bd (f11_layState K n o a1 a2 a3 h1) fun y4 h3 =>
    if y4 = 0 then (
    some ((-2 : Int32), h3))
    else (
    bp (f11_ofState K n o a4 h3) fun y7 =>
    some (y7, h3))
set_option maxHeartbeats 4000000 in
set_option maxRecDepth 20000 in
theorem c11_state {sp : Sp} {K : Ly} {sz n : Nat} (hK : LyOk K) (o : Nat) (a1 : Int32) (a2 : Int32) (a3 : Int32) (a4 : Int32) (h : Hp) (ho : K o = some (.inl 11)) {v : Int32} {hf : Hp} (E : f11_state K n o a1 a2 a3 a4 h = some (v, hf)) : Con sp y11_state prog_13_method_98_code 5 (some (.int)) 14 0 0 [.ref o, .int a1, .int a2, .int a3, .int a4] sz K h (some (.int v)) sz K hf := by
  refine Con.of (by decide) (Nat.le_of_ble_eq_true rfl) (fun Γ X _ => ?_)
  show Go Γ (0, 0) 0 [(0, .ref o), (1, .int a1), (2, .int a2), (3, .int a3), (4, .int a4)] [] sz K h
  unfold f11_state at E
  refine g_aload_n (n := 0) X (by decide +kernel) 0 rfl ?_
  refine g_iconst (n := 0) (x := (0 : Int32)) X (by decide +kernel) (by decide) ?_
  obtain ⟨h1, eh1, E⟩ := lt_E E
  refine g_putI X (by decide +kernel) fp11_169 ho eh1 ?_
  refine g_aload_n (n := 0) X (by decide +kernel) 0 rfl ?_
  refine g_iload_n (n := 1) X (by decide +kernel) 1 rfl ?_
  refine g_iload_n (n := 2) X (by decide +kernel) 2 rfl ?_
  refine g_iload_n (n := 3) X (by decide +kernel) 3 rfl ?_
  obtain ⟨y4, h3, e2, E⟩ := bd_E E
  refine g_callV1 (st := []) X [.int a1, .int a2, .int a3] (by decide +kernel) ml11_564 ho rfl rfl (by decide) (Nat.le_of_ble_eq_true rfl) (c11_layState hK o a1 a2 a3 h1 ho e2) ?_
  rcases it_E E with ⟨c5, E⟩ | ⟨c5, E⟩
  · refine g_if_eq_t (off := 12) (tgt := 24) X (by decide +kernel) (by decide) c5 ?_
    refine g_bipush (n := -2) (x := (-2 : Int32)) X (by decide +kernel) (by decide) ?_
    obtain ⟨rfl, rfl⟩ := rt_E E
    exact g_ireturn X (by decide +kernel)
  · refine g_if_eq_f (off := 12) (tgt := 24) X (by decide +kernel) (by decide) c5 ?_
    refine g_aload_n (n := 0) X (by decide +kernel) 0 rfl ?_
    refine g_iload (n := 4) X (by decide +kernel) 4 rfl ?_
    obtain ⟨y7, e6, E⟩ := bp_E E
    refine g_callV1 (st := []) X [.int a4] (by decide +kernel) ml11_567 ho rfl rfl (by decide) (Nat.le_of_ble_eq_true rfl) (c11_ofState hK o a4 h3 ho e6) ?_
    refine g_goto (off := 5) (tgt := 26) X (by decide +kernel) (by decide) ?_
    obtain ⟨rfl, rfl⟩ := rt_E E
    exact g_ireturn X (by decide +kernel)
-- AskedNamesModel.stored
def f11_stored (K : Ly) (n : Nat) (o : Nat) (a1 : Int32) (a2 : Int32) (a3 : Int32) (a4 : Int32) (a5 : Int32) (a6 : Int32) (h : Hp) : Option (Int32 × Hp) :=
    lt (sI h o 0 (0 : Int32)) fun h1 =>
    bd (f11_layState K n o a1 a2 a3 h1) fun y4 h3 =>
    if y4 = 0 then (
    some ((-1 : Int32), h3))
    else (
    bp (f11_isNode K n o a4 h3) fun y7 =>
    if y7 = 0 then (
    some ((-1 : Int32), h3))
    else (
    gd (inb a4 6) <|
    if (f11_in a5 (0 : Int32) ((h3.1 (o + 14) a4.toNatClampNeg) - (1 : Int32))) = 0 then (
    some ((-1 : Int32), h3))
    else (
    lt (((6 : Int32) * a4) + a5) fun x7_11 =>
    if a6 = 0 then (
    gd (inb x7_11 36) <|
    some ((h3.1 (o + 15) x7_11.toNatClampNeg), h3))
    else (
    if a6 = (1 : Int32) then (
    gd (inb x7_11 36) <|
    some ((h3.1 (o + 16) x7_11.toNatClampNeg), h3))
    else (
    if a6 = (2 : Int32) then (
    gd (inb x7_11 36) <|
    some ((h3.1 (o + 17) x7_11.toNatClampNeg), h3))
    else (
    some ((-1 : Int32), h3)))))))
set_option maxHeartbeats 4000000 in
set_option maxRecDepth 20000 in
theorem c11_stored {sp : Sp} {K : Ly} {sz n : Nat} (hK : LyOk K) (o : Nat) (a1 : Int32) (a2 : Int32) (a3 : Int32) (a4 : Int32) (a5 : Int32) (a6 : Int32) (h : Hp) (ho : K o = some (.inl 11)) {v : Int32} {hf : Hp} (E : f11_stored K n o a1 a2 a3 a4 a5 a6 h = some (v, hf)) : Con sp y11_stored prog_13_method_99_code 8 (some (.int)) 14 0 0 [.ref o, .int a1, .int a2, .int a3, .int a4, .int a5, .int a6] sz K h (some (.int v)) sz K hf := by
  refine Con.of (by decide) (Nat.le_of_ble_eq_true rfl) (fun Γ X _ => ?_)
  show Go Γ (0, 0) 0 [(0, .ref o), (1, .int a1), (2, .int a2), (3, .int a3), (4, .int a4), (5, .int a5), (6, .int a6)] [] sz K h
  unfold f11_stored at E
  refine g_aload_n (n := 0) X (by decide +kernel) 0 rfl ?_
  refine g_iconst (n := 0) (x := (0 : Int32)) X (by decide +kernel) (by decide) ?_
  obtain ⟨h1, eh1, E⟩ := lt_E E
  refine g_putI X (by decide +kernel) fp11_169 ho eh1 ?_
  refine g_aload_n (n := 0) X (by decide +kernel) 0 rfl ?_
  refine g_iload_n (n := 1) X (by decide +kernel) 1 rfl ?_
  refine g_iload_n (n := 2) X (by decide +kernel) 2 rfl ?_
  refine g_iload_n (n := 3) X (by decide +kernel) 3 rfl ?_
  obtain ⟨y4, h3, e2, E⟩ := bd_E E
  refine g_callV1 (st := []) X [.int a1, .int a2, .int a3] (by decide +kernel) ml11_564 ho rfl rfl (by decide) (Nat.le_of_ble_eq_true rfl) (c11_layState hK o a1 a2 a3 h1 ho e2) ?_
  rcases it_E E with ⟨c5, E⟩ | ⟨c5, E⟩
  · refine g_if_eq_t (off := 30) (tgt := 42) X (by decide +kernel) (by decide) c5 ?_
    refine g_iconst (n := -1) (x := (-1 : Int32)) X (by decide +kernel) (by decide) ?_
    obtain ⟨rfl, rfl⟩ := rt_E E
    exact g_ireturn X (by decide +kernel)
  · refine g_if_eq_f (off := 30) (tgt := 42) X (by decide +kernel) (by decide) c5 ?_
    refine g_aload_n (n := 0) X (by decide +kernel) 0 rfl ?_
    refine g_iload (n := 4) X (by decide +kernel) 4 rfl ?_
    obtain ⟨y7, e6, E⟩ := bp_E E
    refine g_callV1 (st := []) X [.int a4] (by decide +kernel) ml11_375 ho rfl rfl (by decide) (Nat.le_of_ble_eq_true rfl) (c11_isNode hK o a4 h3 ho e6) ?_
    rcases it_E E with ⟨c8, E⟩ | ⟨c8, E⟩
    · refine g_if_eq_t (off := 21) (tgt := 42) X (by decide +kernel) (by decide) c8 ?_
      refine g_iconst (n := -1) (x := (-1 : Int32)) X (by decide +kernel) (by decide) ?_
      obtain ⟨rfl, rfl⟩ := rt_E E
      exact g_ireturn X (by decide +kernel)
    · refine g_if_eq_f (off := 21) (tgt := 42) X (by decide +kernel) (by decide) c8 ?_
      refine g_iload (n := 5) X (by decide +kernel) 5 rfl ?_
      refine g_iconst (n := 0) (x := (0 : Int32)) X (by decide +kernel) (by decide) ?_
      refine g_aload_n (n := 0) X (by decide +kernel) 0 rfl ?_
      refine g_getS X (by decide +kernel) fl11_51 ho ?_
      refine g_iload (n := 4) X (by decide +kernel) 4 rfl ?_
      obtain ⟨c9, E⟩ := gd_E E
      refine g_iald X (by decide +kernel) (ly hK ho fl11_51 rfl) c9 ?_
      refine g_iconst (n := 1) (x := (1 : Int32)) X (by decide +kernel) (by decide) ?_
      refine g_isub X (by decide +kernel) ?_
      refine g_callS1 (st := []) X [.int a5, .int (0 : Int32), .int ((h3.1 (o + 14) a4.toNatClampNeg) - (1 : Int32))] (by decide +kernel) ml11_181 (by decide) (Nat.le_of_ble_eq_true rfl) (c11_in hK a5 (0 : Int32) ((h3.1 (o + 14) a4.toNatClampNeg) - (1 : Int32)) h3 ) ?_
      rcases it_E E with ⟨c10, E⟩ | ⟨c10, E⟩
      · refine g_if_ne_f (off := 5) (tgt := 44) X (by decide +kernel) (by decide) (fun z => z c10) ?_
        refine g_iconst (n := -1) (x := (-1 : Int32)) X (by decide +kernel) (by decide) ?_
        obtain ⟨rfl, rfl⟩ := rt_E E
        exact g_ireturn X (by decide +kernel)
      · refine g_if_ne_t (off := 5) (tgt := 44) X (by decide +kernel) (by decide) c10 ?_
        refine g_bipush (n := 6) (x := (6 : Int32)) X (by decide +kernel) (by decide) ?_
        refine g_iload (n := 4) X (by decide +kernel) 4 rfl ?_
        refine g_imul X (by decide +kernel) ?_
        refine g_iload (n := 5) X (by decide +kernel) 5 rfl ?_
        refine g_iadd X (by decide +kernel) ?_
        obtain ⟨x7_11, ex7_11, E⟩ := lt_E E
        refine s_istore (i := 7) X (by decide +kernel) (by decide) ex7_11 (ls_next (by decide) (Or.inr rfl) (ls_next (by decide) (Or.inr rfl) (ls_next (by decide) (Or.inr rfl) (ls_next (by decide) (Or.inr rfl) (ls_next (by decide) (Or.inr rfl) (ls_next (by decide) (Or.inr rfl) (ls_next (by decide) (Or.inr rfl) (ls_ins ls_end)))))))) ?_
        refine g_iload (n := 6) X (by decide +kernel) 6 rfl ?_
        rcases it_E E with ⟨c12, E⟩ | ⟨c12, E⟩
        · refine g_if_ne_f (off := 13) (tgt := 69) X (by decide +kernel) (by decide) (fun z => z c12) ?_
          refine g_aload_n (n := 0) X (by decide +kernel) 0 rfl ?_
          refine g_getS X (by decide +kernel) fl11_54 ho ?_
          refine g_iload (n := 7) X (by decide +kernel) 7 rfl ?_
          obtain ⟨c13, E⟩ := gd_E E
          refine g_iald X (by decide +kernel) (ly hK ho fl11_54 rfl) c13 ?_
          refine g_goto (off := 36) (tgt := 102) X (by decide +kernel) (by decide) ?_
          obtain ⟨rfl, rfl⟩ := rt_E E
          exact g_ireturn X (by decide +kernel)
        · refine g_if_ne_t (off := 13) (tgt := 69) X (by decide +kernel) (by decide) c12 ?_
          refine g_iload (n := 6) X (by decide +kernel) 6 rfl ?_
          refine g_iconst (n := 1) (x := (1 : Int32)) X (by decide +kernel) (by decide) ?_
          rcases it_E E with ⟨c14, E⟩ | ⟨c14, E⟩
          · refine g_icmp_ne_f (off := 13) (tgt := 85) X (by decide +kernel) (by decide) (fun z => z c14) ?_
            refine g_aload_n (n := 0) X (by decide +kernel) 0 rfl ?_
            refine g_getS X (by decide +kernel) fl11_57 ho ?_
            refine g_iload (n := 7) X (by decide +kernel) 7 rfl ?_
            obtain ⟨c15, E⟩ := gd_E E
            refine g_iald X (by decide +kernel) (ly hK ho fl11_57 rfl) c15 ?_
            refine g_goto (off := 20) (tgt := 102) X (by decide +kernel) (by decide) ?_
            obtain ⟨rfl, rfl⟩ := rt_E E
            exact g_ireturn X (by decide +kernel)
          · refine g_icmp_ne_t (off := 13) (tgt := 85) X (by decide +kernel) (by decide) c14 ?_
            refine g_iload (n := 6) X (by decide +kernel) 6 rfl ?_
            refine g_iconst (n := 2) (x := (2 : Int32)) X (by decide +kernel) (by decide) ?_
            rcases it_E E with ⟨c16, E⟩ | ⟨c16, E⟩
            · refine g_icmp_ne_f (off := 13) (tgt := 101) X (by decide +kernel) (by decide) (fun z => z c16) ?_
              refine g_aload_n (n := 0) X (by decide +kernel) 0 rfl ?_
              refine g_getS X (by decide +kernel) fl11_60 ho ?_
              refine g_iload (n := 7) X (by decide +kernel) 7 rfl ?_
              obtain ⟨c17, E⟩ := gd_E E
              refine g_iald X (by decide +kernel) (ly hK ho fl11_60 rfl) c17 ?_
              refine g_goto (off := 4) (tgt := 102) X (by decide +kernel) (by decide) ?_
              obtain ⟨rfl, rfl⟩ := rt_E E
              exact g_ireturn X (by decide +kernel)
            · refine g_icmp_ne_t (off := 13) (tgt := 101) X (by decide +kernel) (by decide) c16 ?_
              refine g_iconst (n := -1) (x := (-1 : Int32)) X (by decide +kernel) (by decide) ?_
              obtain ⟨rfl, rfl⟩ := rt_E E
              exact g_ireturn X (by decide +kernel)
-- AskedNamesModel.entry
def f11_entry (K : Ly) (n : Nat) (o : Nat) (a1 : Int32) (a2 : Int32) (a3 : Int32) (a4 : Int32) (a5 : Int32) (a6 : Int32) (h : Hp) : Option (Int32 × Hp) :=
    lt (sI h o 0 (0 : Int32)) fun h1 =>
    bd (f11_layState K n o a1 a2 a3 h1) fun y4 h3 =>
    if y4 = 0 then (
    some ((-1 : Int32), h3))
    else (
    bp (f11_isNode K n o a4 h3) fun y7 =>
    if y7 = 0 then (
    some ((-1 : Int32), h3))
    else (
    gd (inb a4 6) <|
    if (f11_in a5 (0 : Int32) ((h3.1 (o + 18) a4.toNatClampNeg) - (1 : Int32))) = 0 then (
    some ((-1 : Int32), h3))
    else (
    lt (((64 : Int32) * a4) + a5) fun x7_11 =>
    if a6 = (0 : Int32) then (
    gd (inb x7_11 384) <|
    some ((h3.1 (o + 19) x7_11.toNatClampNeg), h3))
    else if a6 = (1 : Int32) then (
    gd (inb x7_11 384) <|
    some ((h3.1 (o + 20) x7_11.toNatClampNeg), h3))
    else if a6 = (2 : Int32) then (
    gd (inb x7_11 384) <|
    some ((h3.1 (o + 21) x7_11.toNatClampNeg), h3))
    else if a6 = (3 : Int32) then (
    gd (inb x7_11 384) <|
    bp (f11_onesL K n (h3.2.1 (o + 22) x7_11.toNatClampNeg) h3) fun y21 =>
    some (y21, h3))
    else if a6 = (4 : Int32) then (
    gd (inb x7_11 384) <|
    some ((h3.1 (o + 25) x7_11.toNatClampNeg), h3))
    else if a6 = (5 : Int32) then (
    gd (inb x7_11 384) <|
    some ((h3.1 (o + 26) x7_11.toNatClampNeg), h3))
    else if a6 = (6 : Int32) then (
    gd (inb x7_11 384) <|
    some ((h3.1 (o + 27) x7_11.toNatClampNeg), h3))
    else if a6 = (7 : Int32) then (
    gd (inb x7_11 384) <|
    some ((h3.1 (o + 28) x7_11.toNatClampNeg), h3))
    else (
    some ((-1 : Int32), h3)))))
set_option maxHeartbeats 4000000 in
set_option maxRecDepth 20000 in
theorem c11_entry {sp : Sp} {K : Ly} {sz n : Nat} (hK : LyOk K) (o : Nat) (a1 : Int32) (a2 : Int32) (a3 : Int32) (a4 : Int32) (a5 : Int32) (a6 : Int32) (h : Hp) (ho : K o = some (.inl 11)) {v : Int32} {hf : Hp} (E : f11_entry K n o a1 a2 a3 a4 a5 a6 h = some (v, hf)) : Con sp y11_entry prog_13_method_100_code 8 (some (.int)) 14 0 0 [.ref o, .int a1, .int a2, .int a3, .int a4, .int a5, .int a6] sz K h (some (.int v)) sz K hf := by
  refine Con.of (by decide) (Nat.le_of_ble_eq_true rfl) (fun Γ X _ => ?_)
  show Go Γ (0, 0) 0 [(0, .ref o), (1, .int a1), (2, .int a2), (3, .int a3), (4, .int a4), (5, .int a5), (6, .int a6)] [] sz K h
  unfold f11_entry at E
  refine g_aload_n (n := 0) X (by decide +kernel) 0 rfl ?_
  refine g_iconst (n := 0) (x := (0 : Int32)) X (by decide +kernel) (by decide) ?_
  obtain ⟨h1, eh1, E⟩ := lt_E E
  refine g_putI X (by decide +kernel) fp11_169 ho eh1 ?_
  refine g_aload_n (n := 0) X (by decide +kernel) 0 rfl ?_
  refine g_iload_n (n := 1) X (by decide +kernel) 1 rfl ?_
  refine g_iload_n (n := 2) X (by decide +kernel) 2 rfl ?_
  refine g_iload_n (n := 3) X (by decide +kernel) 3 rfl ?_
  obtain ⟨y4, h3, e2, E⟩ := bd_E E
  refine g_callV1 (st := []) X [.int a1, .int a2, .int a3] (by decide +kernel) ml11_564 ho rfl rfl (by decide) (Nat.le_of_ble_eq_true rfl) (c11_layState hK o a1 a2 a3 h1 ho e2) ?_
  rcases it_E E with ⟨c5, E⟩ | ⟨c5, E⟩
  · refine g_if_eq_t (off := 30) (tgt := 42) X (by decide +kernel) (by decide) c5 ?_
    refine g_iconst (n := -1) (x := (-1 : Int32)) X (by decide +kernel) (by decide) ?_
    obtain ⟨rfl, rfl⟩ := rt_E E
    exact g_ireturn X (by decide +kernel)
  · refine g_if_eq_f (off := 30) (tgt := 42) X (by decide +kernel) (by decide) c5 ?_
    refine g_aload_n (n := 0) X (by decide +kernel) 0 rfl ?_
    refine g_iload (n := 4) X (by decide +kernel) 4 rfl ?_
    obtain ⟨y7, e6, E⟩ := bp_E E
    refine g_callV1 (st := []) X [.int a4] (by decide +kernel) ml11_375 ho rfl rfl (by decide) (Nat.le_of_ble_eq_true rfl) (c11_isNode hK o a4 h3 ho e6) ?_
    rcases it_E E with ⟨c8, E⟩ | ⟨c8, E⟩
    · refine g_if_eq_t (off := 21) (tgt := 42) X (by decide +kernel) (by decide) c8 ?_
      refine g_iconst (n := -1) (x := (-1 : Int32)) X (by decide +kernel) (by decide) ?_
      obtain ⟨rfl, rfl⟩ := rt_E E
      exact g_ireturn X (by decide +kernel)
    · refine g_if_eq_f (off := 21) (tgt := 42) X (by decide +kernel) (by decide) c8 ?_
      refine g_iload (n := 5) X (by decide +kernel) 5 rfl ?_
      refine g_iconst (n := 0) (x := (0 : Int32)) X (by decide +kernel) (by decide) ?_
      refine g_aload_n (n := 0) X (by decide +kernel) 0 rfl ?_
      refine g_getS X (by decide +kernel) fl11_63 ho ?_
      refine g_iload (n := 4) X (by decide +kernel) 4 rfl ?_
      obtain ⟨c9, E⟩ := gd_E E
      refine g_iald X (by decide +kernel) (ly hK ho fl11_63 rfl) c9 ?_
      refine g_iconst (n := 1) (x := (1 : Int32)) X (by decide +kernel) (by decide) ?_
      refine g_isub X (by decide +kernel) ?_
      refine g_callS1 (st := []) X [.int a5, .int (0 : Int32), .int ((h3.1 (o + 18) a4.toNatClampNeg) - (1 : Int32))] (by decide +kernel) ml11_181 (by decide) (Nat.le_of_ble_eq_true rfl) (c11_in hK a5 (0 : Int32) ((h3.1 (o + 18) a4.toNatClampNeg) - (1 : Int32)) h3 ) ?_
      rcases it_E E with ⟨c10, E⟩ | ⟨c10, E⟩
      · refine g_if_ne_f (off := 5) (tgt := 44) X (by decide +kernel) (by decide) (fun z => z c10) ?_
        refine g_iconst (n := -1) (x := (-1 : Int32)) X (by decide +kernel) (by decide) ?_
        obtain ⟨rfl, rfl⟩ := rt_E E
        exact g_ireturn X (by decide +kernel)
      · refine g_if_ne_t (off := 5) (tgt := 44) X (by decide +kernel) (by decide) c10 ?_
        refine g_bipush (n := 64) (x := (64 : Int32)) X (by decide +kernel) (by decide) ?_
        refine g_iload (n := 4) X (by decide +kernel) 4 rfl ?_
        refine g_imul X (by decide +kernel) ?_
        refine g_iload (n := 5) X (by decide +kernel) 5 rfl ?_
        refine g_iadd X (by decide +kernel) ?_
        obtain ⟨x7_11, ex7_11, E⟩ := lt_E E
        refine s_istore (i := 7) X (by decide +kernel) (by decide) ex7_11 (ls_next (by decide) (Or.inr rfl) (ls_next (by decide) (Or.inr rfl) (ls_next (by decide) (Or.inr rfl) (ls_next (by decide) (Or.inr rfl) (ls_next (by decide) (Or.inr rfl) (ls_next (by decide) (Or.inr rfl) (ls_next (by decide) (Or.inr rfl) (ls_ins ls_end)))))))) ?_
        refine g_iload (n := 6) X (by decide +kernel) 6 rfl ?_
        rcases it_E E with ⟨c12, E⟩ | ⟨c12, E⟩
        · refine g_tab_in (dflt := 115) (lo := 0) (hi := 7) (offs := #[48, 56, 64, 72, 83, 91, 99, 107]) (len := 48) (off := 48) (tgt := 104) X (by decide +kernel) (by rw [c12]; decide) (by rw [c12]; decide) (by rw [c12]; decide) (by decide) ?_
          refine g_aload_n (n := 0) X (by decide +kernel) 0 rfl ?_
          refine g_getS X (by decide +kernel) fl11_66 ho ?_
          refine g_iload (n := 7) X (by decide +kernel) 7 rfl ?_
          obtain ⟨c13, E⟩ := gd_E E
          refine g_iald X (by decide +kernel) (ly hK ho fl11_66 rfl) c13 ?_
          obtain ⟨rfl, rfl⟩ := rt_E E
          exact g_ireturn X (by decide +kernel)
        · rcases it_E E with ⟨c14, E⟩ | ⟨c14, E⟩
          · refine g_tab_in (dflt := 115) (lo := 0) (hi := 7) (offs := #[48, 56, 64, 72, 83, 91, 99, 107]) (len := 48) (off := 56) (tgt := 112) X (by decide +kernel) (by rw [c14]; decide) (by rw [c14]; decide) (by rw [c14]; decide) (by decide) ?_
            refine g_aload_n (n := 0) X (by decide +kernel) 0 rfl ?_
            refine g_getS X (by decide +kernel) fl11_69 ho ?_
            refine g_iload (n := 7) X (by decide +kernel) 7 rfl ?_
            obtain ⟨c15, E⟩ := gd_E E
            refine g_iald X (by decide +kernel) (ly hK ho fl11_69 rfl) c15 ?_
            obtain ⟨rfl, rfl⟩ := rt_E E
            exact g_ireturn X (by decide +kernel)
          · rcases it_E E with ⟨c16, E⟩ | ⟨c16, E⟩
            · refine g_tab_in (dflt := 115) (lo := 0) (hi := 7) (offs := #[48, 56, 64, 72, 83, 91, 99, 107]) (len := 48) (off := 64) (tgt := 120) X (by decide +kernel) (by rw [c16]; decide) (by rw [c16]; decide) (by rw [c16]; decide) (by decide) ?_
              refine g_aload_n (n := 0) X (by decide +kernel) 0 rfl ?_
              refine g_getS X (by decide +kernel) fl11_72 ho ?_
              refine g_iload (n := 7) X (by decide +kernel) 7 rfl ?_
              obtain ⟨c17, E⟩ := gd_E E
              refine g_iald X (by decide +kernel) (ly hK ho fl11_72 rfl) c17 ?_
              obtain ⟨rfl, rfl⟩ := rt_E E
              exact g_ireturn X (by decide +kernel)
            · rcases it_E E with ⟨c18, E⟩ | ⟨c18, E⟩
              · refine g_tab_in (dflt := 115) (lo := 0) (hi := 7) (offs := #[48, 56, 64, 72, 83, 91, 99, 107]) (len := 48) (off := 72) (tgt := 128) X (by decide +kernel) (by rw [c18]; decide) (by rw [c18]; decide) (by rw [c18]; decide) (by decide) ?_
                refine g_aload_n (n := 0) X (by decide +kernel) 0 rfl ?_
                refine g_getS X (by decide +kernel) fl11_75 ho ?_
                refine g_iload (n := 7) X (by decide +kernel) 7 rfl ?_
                obtain ⟨c19, E⟩ := gd_E E
                refine g_lald X (by decide +kernel) (ly hK ho fl11_75 rfl) c19 ?_
                obtain ⟨y21, e20, E⟩ := bp_E E
                refine g_callS1 (st := []) X [.long (h3.2.1 (o + 22) x7_11.toNatClampNeg)] (by decide +kernel) ml11_561 (by decide) (Nat.le_of_ble_eq_true rfl) (c11_onesL hK (h3.2.1 (o + 22) x7_11.toNatClampNeg) h3  e20) ?_
                obtain ⟨rfl, rfl⟩ := rt_E E
                exact g_ireturn X (by decide +kernel)
              · rcases it_E E with ⟨c22, E⟩ | ⟨c22, E⟩
                · refine g_tab_in (dflt := 115) (lo := 0) (hi := 7) (offs := #[48, 56, 64, 72, 83, 91, 99, 107]) (len := 48) (off := 83) (tgt := 139) X (by decide +kernel) (by rw [c22]; decide) (by rw [c22]; decide) (by rw [c22]; decide) (by decide) ?_
                  refine g_aload_n (n := 0) X (by decide +kernel) 0 rfl ?_
                  refine g_getS X (by decide +kernel) fl11_84 ho ?_
                  refine g_iload (n := 7) X (by decide +kernel) 7 rfl ?_
                  obtain ⟨c23, E⟩ := gd_E E
                  refine g_iald X (by decide +kernel) (ly hK ho fl11_84 rfl) c23 ?_
                  obtain ⟨rfl, rfl⟩ := rt_E E
                  exact g_ireturn X (by decide +kernel)
                · rcases it_E E with ⟨c24, E⟩ | ⟨c24, E⟩
                  · refine g_tab_in (dflt := 115) (lo := 0) (hi := 7) (offs := #[48, 56, 64, 72, 83, 91, 99, 107]) (len := 48) (off := 91) (tgt := 147) X (by decide +kernel) (by rw [c24]; decide) (by rw [c24]; decide) (by rw [c24]; decide) (by decide) ?_
                    refine g_aload_n (n := 0) X (by decide +kernel) 0 rfl ?_
                    refine g_getS X (by decide +kernel) fl11_87 ho ?_
                    refine g_iload (n := 7) X (by decide +kernel) 7 rfl ?_
                    obtain ⟨c25, E⟩ := gd_E E
                    refine g_iald X (by decide +kernel) (ly hK ho fl11_87 rfl) c25 ?_
                    obtain ⟨rfl, rfl⟩ := rt_E E
                    exact g_ireturn X (by decide +kernel)
                  · rcases it_E E with ⟨c26, E⟩ | ⟨c26, E⟩
                    · refine g_tab_in (dflt := 115) (lo := 0) (hi := 7) (offs := #[48, 56, 64, 72, 83, 91, 99, 107]) (len := 48) (off := 99) (tgt := 155) X (by decide +kernel) (by rw [c26]; decide) (by rw [c26]; decide) (by rw [c26]; decide) (by decide) ?_
                      refine g_aload_n (n := 0) X (by decide +kernel) 0 rfl ?_
                      refine g_getS X (by decide +kernel) fl11_90 ho ?_
                      refine g_iload (n := 7) X (by decide +kernel) 7 rfl ?_
                      obtain ⟨c27, E⟩ := gd_E E
                      refine g_iald X (by decide +kernel) (ly hK ho fl11_90 rfl) c27 ?_
                      obtain ⟨rfl, rfl⟩ := rt_E E
                      exact g_ireturn X (by decide +kernel)
                    · rcases it_E E with ⟨c28, E⟩ | ⟨c28, E⟩
                      · refine g_tab_in (dflt := 115) (lo := 0) (hi := 7) (offs := #[48, 56, 64, 72, 83, 91, 99, 107]) (len := 48) (off := 107) (tgt := 163) X (by decide +kernel) (by rw [c28]; decide) (by rw [c28]; decide) (by rw [c28]; decide) (by decide) ?_
                        refine g_aload_n (n := 0) X (by decide +kernel) 0 rfl ?_
                        refine g_getS X (by decide +kernel) fl11_93 ho ?_
                        refine g_iload (n := 7) X (by decide +kernel) 7 rfl ?_
                        obtain ⟨c29, E⟩ := gd_E E
                        refine g_iald X (by decide +kernel) (ly hK ho fl11_93 rfl) c29 ?_
                        obtain ⟨rfl, rfl⟩ := rt_E E
                        exact g_ireturn X (by decide +kernel)
                      · have z30 : a6.toInt < 0 ∨ 7 < a6.toInt := by
                          have z := sw_out (x := a6) 0 7 (by decide) (by decide) (by
                            intro j hj
                            have hj2 : j = 0 ∨ j = 1 ∨ j = 2 ∨ j = 3 ∨ j = 4 ∨ j = 5 ∨ j = 6 ∨ j = 7 := by omega
                            rcases hj2 with rfl | rfl | rfl | rfl | rfl | rfl | rfl | rfl
                            · exact c12
                            · exact c14
                            · exact c16
                            · exact c18
                            · exact c22
                            · exact c24
                            · exact c26
                            · exact c28)
                          simpa using z
                        refine g_tab_out (dflt := 115) (lo := 0) (hi := 7) (offs := #[48, 56, 64, 72, 83, 91, 99, 107]) (len := 48) (tgt := 171) X (by decide +kernel) z30 (by decide) ?_
                        refine g_iconst (n := -1) (x := (-1 : Int32)) X (by decide +kernel) (by decide) ?_
                        obtain ⟨rfl, rfl⟩ := rt_E E
                        exact g_ireturn X (by decide +kernel)
-- AskedNamesModel.ofAsk
def f11_ofAsk (K : Ly) (n : Nat) (o : Nat) (a1 : Int32) (a2 : Int32) (h : Hp) : Option (Int32) :=
    gd (inb a1 64) <|
    lt (h.1 (o + 40) a1.toNatClampNeg) fun x3_2 =>
    if a2 = (0 : Int32) then (
    some x3_2)
    else if a2 = (1 : Int32) then (
    if x3_2 = 0 then (
    some (-1 : Int32))
    else (
    gd (inb a1 64) <|
    some (h.1 (o + 41) a1.toNatClampNeg)))
    else if a2 = (2 : Int32) then (
    if x3_2 = (1 : Int32) then (
    gd (inb a1 64) <|
    some (h.1 (o + 43) a1.toNatClampNeg))
    else (
    some (-1 : Int32)))
    else if a2 = (3 : Int32) then (
    if x3_2 = (1 : Int32) then (
    gd (inb a1 64) <|
    some (h.1 (o + 44) a1.toNatClampNeg))
    else (
    some (-1 : Int32)))
    else if a2 = (4 : Int32) then (
    if x3_2 = (2 : Int32) then (
    gd (inb a1 64) <|
    some (h.1 (o + 45) a1.toNatClampNeg))
    else (
    some (-1 : Int32)))
    else if a2 = (5 : Int32) then (
    if x3_2 = (2 : Int32) then (
    gd (inb a1 64) <|
    some (h.1 (o + 46) a1.toNatClampNeg))
    else (
    some (-1 : Int32)))
    else if a2 = (6 : Int32) then (
    if x3_2 = (2 : Int32) then (
    gd (inb a1 64) <|
    some (h.1 (o + 47) a1.toNatClampNeg))
    else (
    some (-1 : Int32)))
    else (
    some (-2 : Int32))
set_option maxHeartbeats 4000000 in
set_option maxRecDepth 20000 in
theorem c11_ofAsk {sp : Sp} {K : Ly} {sz n : Nat} (hK : LyOk K) (o : Nat) (a1 : Int32) (a2 : Int32) (h : Hp) (ho : K o = some (.inl 11)) {v : Int32} (E : f11_ofAsk K n o a1 a2 h = some v) : Con sp y11_ofAsk prog_13_method_101_code 4 (some (.int)) 1 0 0 [.ref o, .int a1, .int a2] sz K h (some (.int v)) sz K h := by
  refine Con.of (by decide) (Nat.le_of_ble_eq_true rfl) (fun Γ X _ => ?_)
  show Go Γ (0, 0) 0 [(0, .ref o), (1, .int a1), (2, .int a2)] [] sz K h
  unfold f11_ofAsk at E
  refine g_aload_n (n := 0) X (by decide +kernel) 0 rfl ?_
  refine g_getS X (by decide +kernel) fl11_129 ho ?_
  refine g_iload_n (n := 1) X (by decide +kernel) 1 rfl ?_
  obtain ⟨c1, E⟩ := gd_E E
  refine g_iald X (by decide +kernel) (ly hK ho fl11_129 rfl) c1 ?_
  obtain ⟨x3_2, ex3_2, E⟩ := lt_E E
  refine s_istore_n (n := 3) (i := 3) X (by decide +kernel) rfl (by decide) ex3_2 (ls_next (by decide) (Or.inr rfl) (ls_next (by decide) (Or.inr rfl) (ls_next (by decide) (Or.inr rfl) (ls_ins ls_end)))) ?_
  refine g_iload_n (n := 2) X (by decide +kernel) 2 rfl ?_
  rcases it_E E with ⟨c3, E⟩ | ⟨c3, E⟩
  · refine g_tab_in (dflt := 141) (lo := 0) (hi := 6) (offs := #[44, 46, 61, 77, 93, 109, 125]) (len := 44) (off := 44) (tgt := 52) X (by decide +kernel) (by rw [c3]; decide) (by rw [c3]; decide) (by rw [c3]; decide) (by decide) ?_
    refine g_iload_n (n := 3) X (by decide +kernel) 3 rfl ?_
    obtain rfl := Option.some.inj E
    exact g_ireturn X (by decide +kernel)
  · rcases it_E E with ⟨c4, E⟩ | ⟨c4, E⟩
    · refine g_tab_in (dflt := 141) (lo := 0) (hi := 6) (offs := #[44, 46, 61, 77, 93, 109, 125]) (len := 44) (off := 46) (tgt := 54) X (by decide +kernel) (by rw [c4]; decide) (by rw [c4]; decide) (by rw [c4]; decide) (by decide) ?_
      refine g_iload_n (n := 3) X (by decide +kernel) 3 rfl ?_
      rcases it_E E with ⟨c5, E⟩ | ⟨c5, E⟩
      · refine g_if_ne_f (off := 7) (tgt := 62) X (by decide +kernel) (by decide) (fun z => z c5) ?_
        refine g_iconst (n := -1) (x := (-1 : Int32)) X (by decide +kernel) (by decide) ?_
        refine g_goto (off := 9) (tgt := 68) X (by decide +kernel) (by decide) ?_
        obtain rfl := Option.some.inj E
        exact g_ireturn X (by decide +kernel)
      · refine g_if_ne_t (off := 7) (tgt := 62) X (by decide +kernel) (by decide) c5 ?_
        refine g_aload_n (n := 0) X (by decide +kernel) 0 rfl ?_
        refine g_getS X (by decide +kernel) fl11_132 ho ?_
        refine g_iload_n (n := 1) X (by decide +kernel) 1 rfl ?_
        obtain ⟨c6, E⟩ := gd_E E
        refine g_iald X (by decide +kernel) (ly hK ho fl11_132 rfl) c6 ?_
        obtain rfl := Option.some.inj E
        exact g_ireturn X (by decide +kernel)
    · rcases it_E E with ⟨c7, E⟩ | ⟨c7, E⟩
      · refine g_tab_in (dflt := 141) (lo := 0) (hi := 6) (offs := #[44, 46, 61, 77, 93, 109, 125]) (len := 44) (off := 61) (tgt := 69) X (by decide +kernel) (by rw [c7]; decide) (by rw [c7]; decide) (by rw [c7]; decide) (by decide) ?_
        refine g_iload_n (n := 3) X (by decide +kernel) 3 rfl ?_
        refine g_iconst (n := 1) (x := (1 : Int32)) X (by decide +kernel) (by decide) ?_
        rcases it_E E with ⟨c8, E⟩ | ⟨c8, E⟩
        · refine g_icmp_ne_f (off := 12) (tgt := 83) X (by decide +kernel) (by decide) (fun z => z c8) ?_
          refine g_aload_n (n := 0) X (by decide +kernel) 0 rfl ?_
          refine g_getS X (by decide +kernel) fl11_138 ho ?_
          refine g_iload_n (n := 1) X (by decide +kernel) 1 rfl ?_
          obtain ⟨c9, E⟩ := gd_E E
          refine g_iald X (by decide +kernel) (ly hK ho fl11_138 rfl) c9 ?_
          refine g_goto (off := 4) (tgt := 84) X (by decide +kernel) (by decide) ?_
          obtain rfl := Option.some.inj E
          exact g_ireturn X (by decide +kernel)
        · refine g_icmp_ne_t (off := 12) (tgt := 83) X (by decide +kernel) (by decide) c8 ?_
          refine g_iconst (n := -1) (x := (-1 : Int32)) X (by decide +kernel) (by decide) ?_
          obtain rfl := Option.some.inj E
          exact g_ireturn X (by decide +kernel)
      · rcases it_E E with ⟨c10, E⟩ | ⟨c10, E⟩
        · refine g_tab_in (dflt := 141) (lo := 0) (hi := 6) (offs := #[44, 46, 61, 77, 93, 109, 125]) (len := 44) (off := 77) (tgt := 85) X (by decide +kernel) (by rw [c10]; decide) (by rw [c10]; decide) (by rw [c10]; decide) (by decide) ?_
          refine g_iload_n (n := 3) X (by decide +kernel) 3 rfl ?_
          refine g_iconst (n := 1) (x := (1 : Int32)) X (by decide +kernel) (by decide) ?_
          rcases it_E E with ⟨c11, E⟩ | ⟨c11, E⟩
          · refine g_icmp_ne_f (off := 12) (tgt := 99) X (by decide +kernel) (by decide) (fun z => z c11) ?_
            refine g_aload_n (n := 0) X (by decide +kernel) 0 rfl ?_
            refine g_getS X (by decide +kernel) fl11_141 ho ?_
            refine g_iload_n (n := 1) X (by decide +kernel) 1 rfl ?_
            obtain ⟨c12, E⟩ := gd_E E
            refine g_iald X (by decide +kernel) (ly hK ho fl11_141 rfl) c12 ?_
            refine g_goto (off := 4) (tgt := 100) X (by decide +kernel) (by decide) ?_
            obtain rfl := Option.some.inj E
            exact g_ireturn X (by decide +kernel)
          · refine g_icmp_ne_t (off := 12) (tgt := 99) X (by decide +kernel) (by decide) c11 ?_
            refine g_iconst (n := -1) (x := (-1 : Int32)) X (by decide +kernel) (by decide) ?_
            obtain rfl := Option.some.inj E
            exact g_ireturn X (by decide +kernel)
        · rcases it_E E with ⟨c13, E⟩ | ⟨c13, E⟩
          · refine g_tab_in (dflt := 141) (lo := 0) (hi := 6) (offs := #[44, 46, 61, 77, 93, 109, 125]) (len := 44) (off := 93) (tgt := 101) X (by decide +kernel) (by rw [c13]; decide) (by rw [c13]; decide) (by rw [c13]; decide) (by decide) ?_
            refine g_iload_n (n := 3) X (by decide +kernel) 3 rfl ?_
            refine g_iconst (n := 2) (x := (2 : Int32)) X (by decide +kernel) (by decide) ?_
            rcases it_E E with ⟨c14, E⟩ | ⟨c14, E⟩
            · refine g_icmp_ne_f (off := 12) (tgt := 115) X (by decide +kernel) (by decide) (fun z => z c14) ?_
              refine g_aload_n (n := 0) X (by decide +kernel) 0 rfl ?_
              refine g_getS X (by decide +kernel) fl11_144 ho ?_
              refine g_iload_n (n := 1) X (by decide +kernel) 1 rfl ?_
              obtain ⟨c15, E⟩ := gd_E E
              refine g_iald X (by decide +kernel) (ly hK ho fl11_144 rfl) c15 ?_
              refine g_goto (off := 4) (tgt := 116) X (by decide +kernel) (by decide) ?_
              obtain rfl := Option.some.inj E
              exact g_ireturn X (by decide +kernel)
            · refine g_icmp_ne_t (off := 12) (tgt := 115) X (by decide +kernel) (by decide) c14 ?_
              refine g_iconst (n := -1) (x := (-1 : Int32)) X (by decide +kernel) (by decide) ?_
              obtain rfl := Option.some.inj E
              exact g_ireturn X (by decide +kernel)
          · rcases it_E E with ⟨c16, E⟩ | ⟨c16, E⟩
            · refine g_tab_in (dflt := 141) (lo := 0) (hi := 6) (offs := #[44, 46, 61, 77, 93, 109, 125]) (len := 44) (off := 109) (tgt := 117) X (by decide +kernel) (by rw [c16]; decide) (by rw [c16]; decide) (by rw [c16]; decide) (by decide) ?_
              refine g_iload_n (n := 3) X (by decide +kernel) 3 rfl ?_
              refine g_iconst (n := 2) (x := (2 : Int32)) X (by decide +kernel) (by decide) ?_
              rcases it_E E with ⟨c17, E⟩ | ⟨c17, E⟩
              · refine g_icmp_ne_f (off := 12) (tgt := 131) X (by decide +kernel) (by decide) (fun z => z c17) ?_
                refine g_aload_n (n := 0) X (by decide +kernel) 0 rfl ?_
                refine g_getS X (by decide +kernel) fl11_147 ho ?_
                refine g_iload_n (n := 1) X (by decide +kernel) 1 rfl ?_
                obtain ⟨c18, E⟩ := gd_E E
                refine g_iald X (by decide +kernel) (ly hK ho fl11_147 rfl) c18 ?_
                refine g_goto (off := 4) (tgt := 132) X (by decide +kernel) (by decide) ?_
                obtain rfl := Option.some.inj E
                exact g_ireturn X (by decide +kernel)
              · refine g_icmp_ne_t (off := 12) (tgt := 131) X (by decide +kernel) (by decide) c17 ?_
                refine g_iconst (n := -1) (x := (-1 : Int32)) X (by decide +kernel) (by decide) ?_
                obtain rfl := Option.some.inj E
                exact g_ireturn X (by decide +kernel)
            · rcases it_E E with ⟨c19, E⟩ | ⟨c19, E⟩
              · refine g_tab_in (dflt := 141) (lo := 0) (hi := 6) (offs := #[44, 46, 61, 77, 93, 109, 125]) (len := 44) (off := 125) (tgt := 133) X (by decide +kernel) (by rw [c19]; decide) (by rw [c19]; decide) (by rw [c19]; decide) (by decide) ?_
                refine g_iload_n (n := 3) X (by decide +kernel) 3 rfl ?_
                refine g_iconst (n := 2) (x := (2 : Int32)) X (by decide +kernel) (by decide) ?_
                rcases it_E E with ⟨c20, E⟩ | ⟨c20, E⟩
                · refine g_icmp_ne_f (off := 12) (tgt := 147) X (by decide +kernel) (by decide) (fun z => z c20) ?_
                  refine g_aload_n (n := 0) X (by decide +kernel) 0 rfl ?_
                  refine g_getS X (by decide +kernel) fl11_150 ho ?_
                  refine g_iload_n (n := 1) X (by decide +kernel) 1 rfl ?_
                  obtain ⟨c21, E⟩ := gd_E E
                  refine g_iald X (by decide +kernel) (ly hK ho fl11_150 rfl) c21 ?_
                  refine g_goto (off := 4) (tgt := 148) X (by decide +kernel) (by decide) ?_
                  obtain rfl := Option.some.inj E
                  exact g_ireturn X (by decide +kernel)
                · refine g_icmp_ne_t (off := 12) (tgt := 147) X (by decide +kernel) (by decide) c20 ?_
                  refine g_iconst (n := -1) (x := (-1 : Int32)) X (by decide +kernel) (by decide) ?_
                  obtain rfl := Option.some.inj E
                  exact g_ireturn X (by decide +kernel)
              · have z22 : a2.toInt < 0 ∨ 6 < a2.toInt := by
                  have z := sw_out (x := a2) 0 6 (by decide) (by decide) (by
                    intro j hj
                    have hj2 : j = 0 ∨ j = 1 ∨ j = 2 ∨ j = 3 ∨ j = 4 ∨ j = 5 ∨ j = 6 := by omega
                    rcases hj2 with rfl | rfl | rfl | rfl | rfl | rfl | rfl
                    · exact c3
                    · exact c4
                    · exact c7
                    · exact c10
                    · exact c13
                    · exact c16
                    · exact c19)
                  simpa using z
                refine g_tab_out (dflt := 141) (lo := 0) (hi := 6) (offs := #[44, 46, 61, 77, 93, 109, 125]) (len := 44) (tgt := 149) X (by decide +kernel) z22 (by decide) ?_
                refine g_bipush (n := -2) (x := (-2 : Int32)) X (by decide +kernel) (by decide) ?_
                obtain rfl := Option.some.inj E
                exact g_ireturn X (by decide +kernel)
-- AskedNamesModel.why
def f11_why (K : Ly) (n : Nat) (o : Nat) (a1 : Int32) (a2 : Int32) (a3 : Int32) (a4 : Int32) (h : Hp) : Option (Int32 × Hp) :=
    lt (sI h o 0 (0 : Int32)) fun h1 =>
    bd (f11_lay K n o a1 a2 h1) fun y4 h3 =>
    if y4 = 0 then (
    some ((-2 : Int32), h3))
    else (
    bp (f11_deeds K n o h3) fun y7 =>
    if (f11_in a3 (0 : Int32) (y7 - (1 : Int32))) = 0 then (
    some ((-2 : Int32), h3))
    else (
    bp (f11_deeds K n o h3) fun y10 =>
    bd (f11_play K n o y10 h3) fun y13 h12 =>
    gd (inb a3 64) <|
    if (h12.1 (o + 40) a3.toNatClampNeg) = (-1 : Int32) then (
    some ((-2 : Int32), h12))
    else (
    bp (f11_ofAsk K n o a3 a4 h12) fun y17 =>
    some (y17, h12))))
set_option maxHeartbeats 4000000 in
set_option maxRecDepth 20000 in
theorem c11_why {sp : Sp} {K : Ly} {sz n : Nat} (hK : LyOk K) (o : Nat) (a1 : Int32) (a2 : Int32) (a3 : Int32) (a4 : Int32) (h : Hp) (ho : K o = some (.inl 11)) {v : Int32} {hf : Hp} (E : f11_why K n o a1 a2 a3 a4 h = some (v, hf)) : Con sp y11_why prog_13_method_102_code 5 (some (.int)) 13 0 0 [.ref o, .int a1, .int a2, .int a3, .int a4] sz K h (some (.int v)) sz K hf := by
  refine Con.of (by decide) (Nat.le_of_ble_eq_true rfl) (fun Γ X _ => ?_)
  show Go Γ (0, 0) 0 [(0, .ref o), (1, .int a1), (2, .int a2), (3, .int a3), (4, .int a4)] [] sz K h
  unfold f11_why at E
  refine g_aload_n (n := 0) X (by decide +kernel) 0 rfl ?_
  refine g_iconst (n := 0) (x := (0 : Int32)) X (by decide +kernel) (by decide) ?_
  obtain ⟨h1, eh1, E⟩ := lt_E E
  refine g_putI X (by decide +kernel) fp11_169 ho eh1 ?_
  refine g_aload_n (n := 0) X (by decide +kernel) 0 rfl ?_
  refine g_iload_n (n := 1) X (by decide +kernel) 1 rfl ?_
  refine g_iload_n (n := 2) X (by decide +kernel) 2 rfl ?_
  obtain ⟨y4, h3, e2, E⟩ := bd_E E
  refine g_callV1 (st := []) X [.int a1, .int a2] (by decide +kernel) ml11_552 ho rfl rfl (by decide) (Nat.le_of_ble_eq_true rfl) (c11_lay hK o a1 a2 h1 ho e2) ?_
  rcases it_E E with ⟨c5, E⟩ | ⟨c5, E⟩
  · refine g_if_eq_t (off := 17) (tgt := 28) X (by decide +kernel) (by decide) c5 ?_
    refine g_bipush (n := -2) (x := (-2 : Int32)) X (by decide +kernel) (by decide) ?_
    obtain ⟨rfl, rfl⟩ := rt_E E
    exact g_ireturn X (by decide +kernel)
  · refine g_if_eq_f (off := 17) (tgt := 28) X (by decide +kernel) (by decide) c5 ?_
    refine g_iload_n (n := 3) X (by decide +kernel) 3 rfl ?_
    refine g_iconst (n := 0) (x := (0 : Int32)) X (by decide +kernel) (by decide) ?_
    refine g_aload_n (n := 0) X (by decide +kernel) 0 rfl ?_
    obtain ⟨y7, e6, E⟩ := bp_E E
    refine g_callV1 (st := [.int (0 : Int32), .int a3]) X [] (by decide +kernel) ml11_534 ho rfl rfl (by decide) (Nat.le_of_ble_eq_true rfl) (c11_deeds hK o h3 ho e6) ?_
    refine g_iconst (n := 1) (x := (1 : Int32)) X (by decide +kernel) (by decide) ?_
    refine g_isub X (by decide +kernel) ?_
    refine g_callS1 (st := []) X [.int a3, .int (0 : Int32), .int (y7 - (1 : Int32))] (by decide +kernel) ml11_181 (by decide) (Nat.le_of_ble_eq_true rfl) (c11_in hK a3 (0 : Int32) (y7 - (1 : Int32)) h3 ) ?_
    rcases it_E E with ⟨c8, E⟩ | ⟨c8, E⟩
    · refine g_if_ne_f (off := 6) (tgt := 31) X (by decide +kernel) (by decide) (fun z => z c8) ?_
      refine g_bipush (n := -2) (x := (-2 : Int32)) X (by decide +kernel) (by decide) ?_
      obtain ⟨rfl, rfl⟩ := rt_E E
      exact g_ireturn X (by decide +kernel)
    · refine g_if_ne_t (off := 6) (tgt := 31) X (by decide +kernel) (by decide) c8 ?_
      refine g_aload_n (n := 0) X (by decide +kernel) 0 rfl ?_
      refine g_aload_n (n := 0) X (by decide +kernel) 0 rfl ?_
      obtain ⟨y10, e9, E⟩ := bp_E E
      refine g_callV1 (st := [.ref o]) X [] (by decide +kernel) ml11_534 ho rfl rfl (by decide) (Nat.le_of_ble_eq_true rfl) (c11_deeds hK o h3 ho e9) ?_
      obtain ⟨y13, h12, e11, E⟩ := bd_E E
      refine g_callV1 (st := []) X [.int y10] (by decide +kernel) ml11_555 ho rfl rfl (by decide) (Nat.le_of_ble_eq_true rfl) (c11_play hK o y10 h3 ho e11) ?_
      refine g_pop X (by decide +kernel) rfl ?_
      refine g_aload_n (n := 0) X (by decide +kernel) 0 rfl ?_
      refine g_getS X (by decide +kernel) fl11_129 ho ?_
      refine g_iload_n (n := 3) X (by decide +kernel) 3 rfl ?_
      obtain ⟨c14, E⟩ := gd_E E
      refine g_iald X (by decide +kernel) (ly hK ho fl11_129 rfl) c14 ?_
      refine g_iconst (n := -1) (x := (-1 : Int32)) X (by decide +kernel) (by decide) ?_
      rcases it_E E with ⟨c15, E⟩ | ⟨c15, E⟩
      · refine g_icmp_ne_f (off := 8) (tgt := 55) X (by decide +kernel) (by decide) (fun z => z c15) ?_
        refine g_bipush (n := -2) (x := (-2 : Int32)) X (by decide +kernel) (by decide) ?_
        refine g_goto (off := 10) (tgt := 62) X (by decide +kernel) (by decide) ?_
        obtain ⟨rfl, rfl⟩ := rt_E E
        exact g_ireturn X (by decide +kernel)
      · refine g_icmp_ne_t (off := 8) (tgt := 55) X (by decide +kernel) (by decide) c15 ?_
        refine g_aload_n (n := 0) X (by decide +kernel) 0 rfl ?_
        refine g_iload_n (n := 3) X (by decide +kernel) 3 rfl ?_
        refine g_iload (n := 4) X (by decide +kernel) 4 rfl ?_
        obtain ⟨y17, e16, E⟩ := bp_E E
        refine g_callV1 (st := []) X [.int a3, .int a4] (by decide +kernel) ml11_570 ho rfl rfl (by decide) (Nat.le_of_ble_eq_true rfl) (c11_ofAsk hK o a3 a4 h12 ho e16) ?_
        obtain ⟨rfl, rfl⟩ := rt_E E
        exact g_ireturn X (by decide +kernel)
-- AskedNamesModel.alone
def f11_alone (K : Ly) (n : Nat) (o : Nat) (a1 : Int32) (a2 : Int32) (a3 : Int32) (a4 : Int32) (a5 : Int32) (h : Hp) : Option (Int32 × Hp) :=
    lt (sI h o 0 (0 : Int32)) fun h1 =>
    bd (f11_hasNet K n o a1 h1) fun y4 h3 =>
    if y4 = 0 then (
    some ((-2 : Int32), h3))
    else (
    bp (f11_isNode K n o a2 h3) fun y7 =>
    if y7 = 0 then (
    some ((-2 : Int32), h3))
    else (
    bp (f11_isName K n a3 h3) fun y10 =>
    if y10 = 0 then (
    some ((-2 : Int32), h3))
    else (
    if (f11_in a4 (0 : Int32) (1 : Int32)) = 0 then (
    some ((-2 : Int32), h3))
    else (
    if (f11_in a5 (0 : Int32) (2 : Int32)) = 0 then (
    some ((-2 : Int32), h3))
    else (
    bp (f11_begin K n o (-1 : Int32) h3) fun h15 =>
    bd (f11_asks K n o a2 a3 a4 (0 : Int32) h15) fun y18 h17 =>
    bd (f11_waits K n o (99 : Int32) h17) fun y21 h20 =>
    if a5 = (2 : Int32) then (
    some ((h20.1 o 65), h20))
    else (
    bp (f11_ofAsk K n o (0 : Int32) a5 h20) fun y24 =>
    some (y24, h20)))))))
set_option maxHeartbeats 4000000 in
set_option maxRecDepth 20000 in
theorem c11_alone {sp : Sp} {K : Ly} {sz n : Nat} (hK : LyOk K) (o : Nat) (a1 : Int32) (a2 : Int32) (a3 : Int32) (a4 : Int32) (a5 : Int32) (h : Hp) (ho : K o = some (.inl 11)) {v : Int32} {hf : Hp} (E : f11_alone K n o a1 a2 a3 a4 a5 h = some (v, hf)) : Con sp y11_alone prog_13_method_103_code 6 (some (.int)) 11 0 0 [.ref o, .int a1, .int a2, .int a3, .int a4, .int a5] sz K h (some (.int v)) sz K hf := by
  refine Con.of (by decide) (Nat.le_of_ble_eq_true rfl) (fun Γ X _ => ?_)
  show Go Γ (0, 0) 0 [(0, .ref o), (1, .int a1), (2, .int a2), (3, .int a3), (4, .int a4), (5, .int a5)] [] sz K h
  unfold f11_alone at E
  refine g_aload_n (n := 0) X (by decide +kernel) 0 rfl ?_
  refine g_iconst (n := 0) (x := (0 : Int32)) X (by decide +kernel) (by decide) ?_
  obtain ⟨h1, eh1, E⟩ := lt_E E
  refine g_putI X (by decide +kernel) fp11_169 ho eh1 ?_
  refine g_aload_n (n := 0) X (by decide +kernel) 0 rfl ?_
  refine g_iload_n (n := 1) X (by decide +kernel) 1 rfl ?_
  obtain ⟨y4, h3, e2, E⟩ := bd_E E
  refine g_callV1 (st := []) X [.int a1] (by decide +kernel) ml11_372 ho rfl rfl (by decide) (Nat.le_of_ble_eq_true rfl) (c11_hasNet hK o a1 h1 ho e2) ?_
  rcases it_E E with ⟨c5, E⟩ | ⟨c5, E⟩
  · refine g_if_eq_t (off := 38) (tgt := 48) X (by decide +kernel) (by decide) c5 ?_
    refine g_bipush (n := -2) (x := (-2 : Int32)) X (by decide +kernel) (by decide) ?_
    obtain ⟨rfl, rfl⟩ := rt_E E
    exact g_ireturn X (by decide +kernel)
  · refine g_if_eq_f (off := 38) (tgt := 48) X (by decide +kernel) (by decide) c5 ?_
    refine g_aload_n (n := 0) X (by decide +kernel) 0 rfl ?_
    refine g_iload_n (n := 2) X (by decide +kernel) 2 rfl ?_
    obtain ⟨y7, e6, E⟩ := bp_E E
    refine g_callV1 (st := []) X [.int a2] (by decide +kernel) ml11_375 ho rfl rfl (by decide) (Nat.le_of_ble_eq_true rfl) (c11_isNode hK o a2 h3 ho e6) ?_
    rcases it_E E with ⟨c8, E⟩ | ⟨c8, E⟩
    · refine g_if_eq_t (off := 30) (tgt := 48) X (by decide +kernel) (by decide) c8 ?_
      refine g_bipush (n := -2) (x := (-2 : Int32)) X (by decide +kernel) (by decide) ?_
      obtain ⟨rfl, rfl⟩ := rt_E E
      exact g_ireturn X (by decide +kernel)
    · refine g_if_eq_f (off := 30) (tgt := 48) X (by decide +kernel) (by decide) c8 ?_
      refine g_iload_n (n := 3) X (by decide +kernel) 3 rfl ?_
      obtain ⟨y10, e9, E⟩ := bp_E E
      refine g_callS1 (st := []) X [.int a3] (by decide +kernel) ml11_573 (by decide) (Nat.le_of_ble_eq_true rfl) (c11_isName hK a3 h3  e9) ?_
      rcases it_E E with ⟨c11, E⟩ | ⟨c11, E⟩
      · refine g_if_eq_t (off := 23) (tgt := 48) X (by decide +kernel) (by decide) c11 ?_
        refine g_bipush (n := -2) (x := (-2 : Int32)) X (by decide +kernel) (by decide) ?_
        obtain ⟨rfl, rfl⟩ := rt_E E
        exact g_ireturn X (by decide +kernel)
      · refine g_if_eq_f (off := 23) (tgt := 48) X (by decide +kernel) (by decide) c11 ?_
        refine g_iload (n := 4) X (by decide +kernel) 4 rfl ?_
        refine g_iconst (n := 0) (x := (0 : Int32)) X (by decide +kernel) (by decide) ?_
        refine g_iconst (n := 1) (x := (1 : Int32)) X (by decide +kernel) (by decide) ?_
        refine g_callS1 (st := []) X [.int a4, .int (0 : Int32), .int (1 : Int32)] (by decide +kernel) ml11_181 (by decide) (Nat.le_of_ble_eq_true rfl) (c11_in hK a4 (0 : Int32) (1 : Int32) h3 ) ?_
        rcases it_E E with ⟨c12, E⟩ | ⟨c12, E⟩
        · refine g_if_eq_t (off := 13) (tgt := 48) X (by decide +kernel) (by decide) c12 ?_
          refine g_bipush (n := -2) (x := (-2 : Int32)) X (by decide +kernel) (by decide) ?_
          obtain ⟨rfl, rfl⟩ := rt_E E
          exact g_ireturn X (by decide +kernel)
        · refine g_if_eq_f (off := 13) (tgt := 48) X (by decide +kernel) (by decide) c12 ?_
          refine g_iload (n := 5) X (by decide +kernel) 5 rfl ?_
          refine g_iconst (n := 0) (x := (0 : Int32)) X (by decide +kernel) (by decide) ?_
          refine g_iconst (n := 2) (x := (2 : Int32)) X (by decide +kernel) (by decide) ?_
          refine g_callS1 (st := []) X [.int a5, .int (0 : Int32), .int (2 : Int32)] (by decide +kernel) ml11_181 (by decide) (Nat.le_of_ble_eq_true rfl) (c11_in hK a5 (0 : Int32) (2 : Int32) h3 ) ?_
          rcases it_E E with ⟨c13, E⟩ | ⟨c13, E⟩
          · refine g_if_ne_f (off := 6) (tgt := 51) X (by decide +kernel) (by decide) (fun z => z c13) ?_
            refine g_bipush (n := -2) (x := (-2 : Int32)) X (by decide +kernel) (by decide) ?_
            obtain ⟨rfl, rfl⟩ := rt_E E
            exact g_ireturn X (by decide +kernel)
          · refine g_if_ne_t (off := 6) (tgt := 51) X (by decide +kernel) (by decide) c13 ?_
            refine g_aload_n (n := 0) X (by decide +kernel) 0 rfl ?_
            refine g_iconst (n := -1) (x := (-1 : Int32)) X (by decide +kernel) (by decide) ?_
            obtain ⟨h15, e14, E⟩ := bp_E E
            refine g_callV0 (st := []) X [.int (-1 : Int32)] (by decide +kernel) ml11_549 ho rfl rfl (by decide) (Nat.le_of_ble_eq_true rfl) (c11_begin hK o (-1 : Int32) h3 ho e14) ?_
            refine g_aload_n (n := 0) X (by decide +kernel) 0 rfl ?_
            refine g_iload_n (n := 2) X (by decide +kernel) 2 rfl ?_
            refine g_iload_n (n := 3) X (by decide +kernel) 3 rfl ?_
            refine g_iload (n := 4) X (by decide +kernel) 4 rfl ?_
            refine g_iconst (n := 0) (x := (0 : Int32)) X (by decide +kernel) (by decide) ?_
            obtain ⟨y18, h17, e16, E⟩ := bd_E E
            refine g_callV1 (st := []) X [.int a2, .int a3, .int a4, .int (0 : Int32)] (by decide +kernel) ml11_518 ho rfl rfl (by decide) (Nat.le_of_ble_eq_true rfl) (c11_asks hK o a2 a3 a4 (0 : Int32) h15 ho e16) ?_
            refine g_pop X (by decide +kernel) rfl ?_
            refine g_aload_n (n := 0) X (by decide +kernel) 0 rfl ?_
            refine g_bipush (n := 99) (x := (99 : Int32)) X (by decide +kernel) (by decide) ?_
            obtain ⟨y21, h20, e19, E⟩ := bd_E E
            refine g_callV1 (st := []) X [.int (99 : Int32)] (by decide +kernel) ml11_521 ho rfl rfl (by decide) (Nat.le_of_ble_eq_true rfl) (c11_waits hK o (99 : Int32) h17 ho e19) ?_
            refine g_pop X (by decide +kernel) rfl ?_
            refine g_iload (n := 5) X (by decide +kernel) 5 rfl ?_
            refine g_iconst (n := 2) (x := (2 : Int32)) X (by decide +kernel) (by decide) ?_
            rcases it_E E with ⟨c22, E⟩ | ⟨c22, E⟩
            · refine g_icmp_ne_f (off := 10) (tgt := 86) X (by decide +kernel) (by decide) (fun z => z c22) ?_
              refine g_aload_n (n := 0) X (by decide +kernel) 0 rfl ?_
              refine g_getI X (by decide +kernel) fl11_390 ho ?_
              refine g_goto (off := 10) (tgt := 93) X (by decide +kernel) (by decide) ?_
              obtain ⟨rfl, rfl⟩ := rt_E E
              exact g_ireturn X (by decide +kernel)
            · refine g_icmp_ne_t (off := 10) (tgt := 86) X (by decide +kernel) (by decide) c22 ?_
              refine g_aload_n (n := 0) X (by decide +kernel) 0 rfl ?_
              refine g_iconst (n := 0) (x := (0 : Int32)) X (by decide +kernel) (by decide) ?_
              refine g_iload (n := 5) X (by decide +kernel) 5 rfl ?_
              obtain ⟨y24, e23, E⟩ := bp_E E
              refine g_callV1 (st := []) X [.int (0 : Int32), .int a5] (by decide +kernel) ml11_570 ho rfl rfl (by decide) (Nat.le_of_ble_eq_true rfl) (c11_ofAsk hK o (0 : Int32) a5 h20 ho e23) ?_
              obtain ⟨rfl, rfl⟩ := rt_E E
              exact g_ireturn X (by decide +kernel)
-- AskedNamesModel.rowsAt
def f11_rowsAt_J73 (K : Ly) (n : Nat) (r4 : Int32 → Int32 → Hp → Option (Int32 × Hp)) (r34 : Int32 → Int32 → Hp → Option (Int32 × Hp)) (r45 : Int32 → Int32 → Option (Int32 × Hp)) (x0 : Nat) (x1 : Int32) (x2 : Int32) (x3 : Int32) (x4 : Int32) (x6 : Int32) (s0 : Int32) (h : Hp) : Option (Int32 × Hp) :=
    lt (x6 + (1 : Int32)) fun x6_20 =>
    r45 s0 x6_20
def f11_rowsAt_J68 (K : Ly) (n : Nat) (r4 : Int32 → Int32 → Hp → Option (Int32 × Hp)) (r34 : Int32 → Int32 → Hp → Option (Int32 × Hp)) (r45 : Int32 → Int32 → Option (Int32 × Hp)) (x0 : Nat) (x1 : Int32) (x2 : Int32) (x3 : Int32) (x4 : Int32) (x6 : Int32) (h : Hp) : Option (Int32 × Hp) :=
    f11_rowsAt_J73 K n (r4) (r34) (r45) x0 x1 x2 x3 x4 x6 (1 : Int32) h
def f11_rowsAt_J114 (K : Ly) (n : Nat) (r4 : Int32 → Int32 → Hp → Option (Int32 × Hp)) (r34 : Int32 → Int32 → Hp → Option (Int32 × Hp)) (x0 : Nat) (x1 : Int32) (x3 : Int32) (x4 : Int32) (s0 : Int32) (s1 : Int32) (h : Hp) : Option (Int32 × Hp) :=
    lt (s0 + s1) fun x2_21 =>
    lt (x4 / (27 : Int32)) fun x4_22 =>
    r34 x2_21 x4_22 h
def f11_rowsAt_J102 (K : Ly) (n : Nat) (r4 : Int32 → Int32 → Hp → Option (Int32 × Hp)) (r34 : Int32 → Int32 → Hp → Option (Int32 × Hp)) (x0 : Nat) (x1 : Int32) (x2 : Int32) (x3 : Int32) (x4 : Int32) (x5 : Int32) (s0 : Nat) (s1 : Int32) (s2 : Int32) (h : Hp) : Option (Int32 × Hp) :=
    gd (inb s1 48) <|
    lt (sI h s0 s1.toNatClampNeg s2) fun h18 =>
    f11_rowsAt_J114 K n (r4) (r34) x0 x1 x3 x4 x2 (if x5 = 0 then (1 : Int32) else (0 : Int32)) h18
def f11_rowsAt_L45 (K : Ly) (n : Nat) (x0 : Nat) (x1 : Int32) (x2 : Int32) (x3 : Int32) (x4 : Int32) (h : Hp) (r4 : Int32 → Int32 → Hp → Option (Int32 × Hp)) (r34 : Int32 → Int32 → Hp → Option (Int32 × Hp)) : Nat → Int32 → Int32 → Option (Int32 × Hp)
  | 0, _, _ => none
  | k + 1, x5, x6 =>
    if x2 ≤ x6 then (
    if x5 = 0 then (
    f11_rowsAt_J102 K n (r4) (r34) x0 x1 x2 x3 x4 x5 (x0 + 48) x2 x4 h)
    else (
    gd (inb x2 48) <|
    f11_rowsAt_J102 K n (r4) (r34) x0 x1 x2 x3 x4 x5 (x0 + 48) x2 (h.1 (x0 + 48) x2.toNatClampNeg) h))
    else (
    if x5 = 0 then (
    gd (inb x6 48) <|
    f11_rowsAt_J73 K n (r4) (r34) (f11_rowsAt_L45 K n x0 x1 x2 x3 x4 h r4 r34 k) x0 x1 x2 x3 x4 x6 (if (h.1 (x0 + 48) x6.toNatClampNeg) = x4 then (1 : Int32) else (0 : Int32)) h)
    else (
    f11_rowsAt_J68 K n (r4) (r34) (f11_rowsAt_L45 K n x0 x1 x2 x3 x4 h r4 r34 k) x0 x1 x2 x3 x4 x6 h))
def f11_rowsAt_L34 (K : Ly) (n : Nat) (x0 : Nat) (x1 : Int32) (x3 : Int32)  (r4 : Int32 → Int32 → Hp → Option (Int32 × Hp)) : Nat → Int32 → Int32 → Hp → Option (Int32 × Hp)
  | 0, _, _, _ => none
  | k + 1, x2, x4, h =>
    if x4 ≤ 0 then (
    lt (x3 + (1 : Int32)) fun x3_10 =>
    r4 x2 x3_10 h)
    else (
    f11_rowsAt_L45 K n x0 x1 x2 x3 x4 h (r4) (f11_rowsAt_L34 K n x0 x1 x3 r4 k) n (0 : Int32) (0 : Int32))
def f11_rowsAt_J32 (K : Ly) (n : Nat) (r4 : Int32 → Int32 → Hp → Option (Int32 × Hp)) (x0 : Nat) (x1 : Int32) (x2 : Int32) (x3 : Int32) (s0 : Int32) (h : Hp) : Option (Int32 × Hp) :=
    f11_rowsAt_L34 K n x0 x1 x3 (r4) n x2 s0 h
def f11_rowsAt_L4 (K : Ly) (n : Nat) (x0 : Nat) (x1 : Int32)   : Nat → Int32 → Int32 → Hp → Option (Int32 × Hp)
  | 0, _, _, _ => none
  | k + 1, x2, x3, h =>
    bp (f11_routes K n x0 h) fun y2 =>
    if y2 ≤ x3 then (
    some (x2, h))
    else (
    bp (f11_routeAt K n x0 x3 (0 : Int32) h) fun y5 =>
    if y5 = x1 then (
    bp (f11_routeAt K n x0 x3 (1 : Int32) h) fun y8 =>
    f11_rowsAt_J32 K n (f11_rowsAt_L4 K n x0 x1  k) x0 x1 x2 x3 y8 h)
    else (
    f11_rowsAt_J32 K n (f11_rowsAt_L4 K n x0 x1  k) x0 x1 x2 x3 (0 : Int32) h))
def f11_rowsAt (K : Ly) (n : Nat) (o : Nat) (a1 : Int32) (h : Hp) : Option (Int32 × Hp) :=
    f11_rowsAt_L4 K n o a1 n (0 : Int32) (0 : Int32) h
set_option maxHeartbeats 4000000 in
set_option maxRecDepth 20000 in
theorem w11_rowsAt_J73 {Γ : CT} {sp : Sp} {K : Ly} {sz n : Nat} {v : Int32} {hf : Hp}  {r4 : Int32 → Int32 → Hp → Option (Int32 × Hp)} {r34 : Int32 → Int32 → Hp → Option (Int32 × Hp)} {r45 : Int32 → Int32 → Option (Int32 × Hp)}  (X : Ok Γ sp prog_13_method_104_code Rc11 7 (some (.int)) 3 (some (.int v)) sz K hf) (hK : LyOk K) (x0 : Nat) (x1 : Int32) (x2 : Int32) (x3 : Int32) (x4 : Int32) (x6 : Int32) (s0 : Int32) (h : Hp) (hr4 : ∀ (x2 : Int32) (x3 : Int32) (h : Hp), r4 x2 x3 h = some (v, hf) → Go Γ (0, 0) 4 [(0, .ref x0), (1, .int x1), (2, .int x2), (3, .int x3)] [] sz K h) (hr34 : ∀ (x2 : Int32) (x4 : Int32) (h : Hp), r34 x2 x4 h = some (v, hf) → Go Γ (0, 0) 34 [(0, .ref x0), (1, .int x1), (2, .int x2), (3, .int x3), (4, .int x4)] [] sz K h) (hr45 : ∀ (x5 : Int32) (x6 : Int32), r45 x5 x6 = some (v, hf) → Go Γ (0, 0) 45 [(0, .ref x0), (1, .int x1), (2, .int x2), (3, .int x3), (4, .int x4), (5, .int x5), (6, .int x6)] [] sz K h) (px0 : K x0 = some (.inl 11)) (E : f11_rowsAt_J73 K n r4 r34 r45 x0 x1 x2 x3 x4 x6 s0 h = some (v, hf)) : Go Γ (0, 0) 73 [(0, .ref x0), (1, .int x1), (2, .int x2), (3, .int x3), (4, .int x4), (6, .int x6)] [.int s0] sz K h := by
  unfold f11_rowsAt_J73 at E
  refine s_istore (i := 5) X (by decide +kernel) (by decide) rfl (ls_next (by decide) (Or.inr rfl) (ls_next (by decide) (Or.inr rfl) (ls_next (by decide) (Or.inr rfl) (ls_next (by decide) (Or.inr rfl) (ls_next (by decide) (Or.inr rfl) (ls_ins (ls_next (by decide) (Or.inr rfl) ls_end))))))) ?_
  obtain ⟨x6_20, ex6_20, E⟩ := lt_E E
  refine s_iinc (i := 6) (n := 1) (y := x6_20) X (by decide +kernel) 6 rfl (by decide) ex6_20 (ls_next (by decide) (Or.inr rfl) (ls_next (by decide) (Or.inr rfl) (ls_next (by decide) (Or.inr rfl) (ls_next (by decide) (Or.inr rfl) (ls_next (by decide) (Or.inr rfl) (ls_next (by decide) (Or.inr rfl) (ls_here ls_end))))))) ?_
  refine g_goto (off := -33) (tgt := 45) X (by decide +kernel) (by decide) ?_
  exact hr45 s0 x6_20  E
set_option maxHeartbeats 4000000 in
set_option maxRecDepth 20000 in
theorem w11_rowsAt_J68 {Γ : CT} {sp : Sp} {K : Ly} {sz n : Nat} {v : Int32} {hf : Hp}  {r4 : Int32 → Int32 → Hp → Option (Int32 × Hp)} {r34 : Int32 → Int32 → Hp → Option (Int32 × Hp)} {r45 : Int32 → Int32 → Option (Int32 × Hp)}  (X : Ok Γ sp prog_13_method_104_code Rc11 7 (some (.int)) 3 (some (.int v)) sz K hf) (hK : LyOk K) (x0 : Nat) (x1 : Int32) (x2 : Int32) (x3 : Int32) (x4 : Int32) (x6 : Int32) (h : Hp) (hr4 : ∀ (x2 : Int32) (x3 : Int32) (h : Hp), r4 x2 x3 h = some (v, hf) → Go Γ (0, 0) 4 [(0, .ref x0), (1, .int x1), (2, .int x2), (3, .int x3)] [] sz K h) (hr34 : ∀ (x2 : Int32) (x4 : Int32) (h : Hp), r34 x2 x4 h = some (v, hf) → Go Γ (0, 0) 34 [(0, .ref x0), (1, .int x1), (2, .int x2), (3, .int x3), (4, .int x4)] [] sz K h) (hr45 : ∀ (x5 : Int32) (x6 : Int32), r45 x5 x6 = some (v, hf) → Go Γ (0, 0) 45 [(0, .ref x0), (1, .int x1), (2, .int x2), (3, .int x3), (4, .int x4), (5, .int x5), (6, .int x6)] [] sz K h) (px0 : K x0 = some (.inl 11)) (E : f11_rowsAt_J68 K n r4 r34 r45 x0 x1 x2 x3 x4 x6 h = some (v, hf)) : Go Γ (0, 0) 68 [(0, .ref x0), (1, .int x1), (2, .int x2), (3, .int x3), (4, .int x4), (6, .int x6)] [] sz K h := by
  unfold f11_rowsAt_J68 at E
  refine g_iconst (n := 1) (x := (1 : Int32)) X (by decide +kernel) (by decide) ?_
  refine g_goto (off := 4) (tgt := 73) X (by decide +kernel) (by decide) ?_
  exact w11_rowsAt_J73 X hK x0 x1 x2 x3 x4 x6 (1 : Int32) h hr4 hr34 hr45 px0 E
set_option maxHeartbeats 4000000 in
set_option maxRecDepth 20000 in
theorem w11_rowsAt_J114 {Γ : CT} {sp : Sp} {K : Ly} {sz n : Nat} {v : Int32} {hf : Hp}  {r4 : Int32 → Int32 → Hp → Option (Int32 × Hp)} {r34 : Int32 → Int32 → Hp → Option (Int32 × Hp)}  (X : Ok Γ sp prog_13_method_104_code Rc11 7 (some (.int)) 3 (some (.int v)) sz K hf) (hK : LyOk K) (x0 : Nat) (x1 : Int32) (x3 : Int32) (x4 : Int32) (s0 : Int32) (s1 : Int32) (h : Hp) (hr4 : ∀ (x2 : Int32) (x3 : Int32) (h : Hp), r4 x2 x3 h = some (v, hf) → Go Γ (0, 0) 4 [(0, .ref x0), (1, .int x1), (2, .int x2), (3, .int x3)] [] sz K h) (hr34 : ∀ (x2 : Int32) (x4 : Int32) (h : Hp), r34 x2 x4 h = some (v, hf) → Go Γ (0, 0) 34 [(0, .ref x0), (1, .int x1), (2, .int x2), (3, .int x3), (4, .int x4)] [] sz K h) (px0 : K x0 = some (.inl 11)) (E : f11_rowsAt_J114 K n r4 r34 x0 x1 x3 x4 s0 s1 h = some (v, hf)) : Go Γ (0, 0) 114 [(0, .ref x0), (1, .int x1), (3, .int x3), (4, .int x4)] [.int s1, .int s0] sz K h := by
  unfold f11_rowsAt_J114 at E
  refine g_iadd X (by decide +kernel) ?_
  obtain ⟨x2_21, ex2_21, E⟩ := lt_E E
  refine s_istore_n (n := 2) (i := 2) X (by decide +kernel) rfl (by decide) ex2_21 (ls_next (by decide) (Or.inr rfl) (ls_next (by decide) (Or.inr rfl) (ls_ins (ls_next (by decide) (Or.inr rfl) (ls_next (by decide) (Or.inr rfl) ls_end))))) ?_
  refine g_iload (n := 4) X (by decide +kernel) 4 rfl ?_
  refine g_bipush (n := 27) (x := (27 : Int32)) X (by decide +kernel) (by decide) ?_
  refine g_idiv X (by decide +kernel) (by decide) ?_
  obtain ⟨x4_22, ex4_22, E⟩ := lt_E E
  refine s_istore (i := 4) X (by decide +kernel) (by decide) ex4_22 (ls_next (by decide) (Or.inr rfl) (ls_next (by decide) (Or.inr rfl) (ls_next (by decide) (Or.inr rfl) (ls_next (by decide) (Or.inr rfl) (ls_here ls_end))))) ?_
  refine g_goto (off := -89) (tgt := 34) X (by decide +kernel) (by decide) ?_
  exact hr34 x2_21 x4_22 h  E
set_option maxHeartbeats 4000000 in
set_option maxRecDepth 20000 in
theorem w11_rowsAt_J102 {Γ : CT} {sp : Sp} {K : Ly} {sz n : Nat} {v : Int32} {hf : Hp}  {r4 : Int32 → Int32 → Hp → Option (Int32 × Hp)} {r34 : Int32 → Int32 → Hp → Option (Int32 × Hp)}  (X : Ok Γ sp prog_13_method_104_code Rc11 7 (some (.int)) 3 (some (.int v)) sz K hf) (hK : LyOk K) (x0 : Nat) (x1 : Int32) (x2 : Int32) (x3 : Int32) (x4 : Int32) (x5 : Int32) (s0 : Nat) (s1 : Int32) (s2 : Int32) (h : Hp) (hr4 : ∀ (x2 : Int32) (x3 : Int32) (h : Hp), r4 x2 x3 h = some (v, hf) → Go Γ (0, 0) 4 [(0, .ref x0), (1, .int x1), (2, .int x2), (3, .int x3)] [] sz K h) (hr34 : ∀ (x2 : Int32) (x4 : Int32) (h : Hp), r34 x2 x4 h = some (v, hf) → Go Γ (0, 0) 34 [(0, .ref x0), (1, .int x1), (2, .int x2), (3, .int x3), (4, .int x4)] [] sz K h) (px0 : K x0 = some (.inl 11)) (ps0 : K s0 = some (.inr (0, 48))) (E : f11_rowsAt_J102 K n r4 r34 x0 x1 x2 x3 x4 x5 s0 s1 s2 h = some (v, hf)) : Go Γ (0, 0) 102 [(0, .ref x0), (1, .int x1), (2, .int x2), (3, .int x3), (4, .int x4), (5, .int x5)] [.int s2, .int s1, .ref s0] sz K h := by
  unfold f11_rowsAt_J102 at E
  obtain ⟨c17, E⟩ := gd_E E
  obtain ⟨h18, eh18, E⟩ := lt_E E
  refine g_iast X (by decide +kernel) ps0 c17 eh18 ?_
  refine g_iload_n (n := 2) X (by decide +kernel) 2 rfl ?_
  refine g_iload (n := 5) X (by decide +kernel) 5 rfl ?_
  have hJ : Go Γ (0, 0) 114 [(0, .ref x0), (1, .int x1), (3, .int x3), (4, .int x4)] [.int (if x5 = 0 then (1 : Int32) else (0 : Int32)), .int x2] sz K h18 := by
    exact w11_rowsAt_J114 X hK x0 x1 x3 x4 x2 (if x5 = 0 then (1 : Int32) else (0 : Int32)) h18 hr4 hr34 px0 E
  clear E
  by_cases c19 : x5 = 0
  · rw [if_pos c19] at hJ
    refine g_if_eq_t (off := 7) (tgt := 113) X (by decide +kernel) (by decide) c19 ?_
    refine g_iconst (n := 1) (x := (1 : Int32)) X (by decide +kernel) (by decide) ?_
    refine g_sub [0, 1, 3, 4] rfl ?_
    exact hJ
  · rw [if_neg c19] at hJ
    refine g_if_eq_f (off := 7) (tgt := 113) X (by decide +kernel) (by decide) c19 ?_
    refine g_iconst (n := 0) (x := (0 : Int32)) X (by decide +kernel) (by decide) ?_
    refine g_goto (off := 4) (tgt := 114) X (by decide +kernel) (by decide) ?_
    refine g_sub [0, 1, 3, 4] rfl ?_
    exact hJ
set_option maxHeartbeats 4000000 in
set_option maxRecDepth 20000 in
theorem w11_rowsAt_L45 {Γ : CT} {sp : Sp} {K : Ly} {sz n : Nat} {v : Int32} {hf : Hp}  (X : Ok Γ sp prog_13_method_104_code Rc11 7 (some (.int)) 3 (some (.int v)) sz K hf) (hK : LyOk K) (x0 : Nat) (x1 : Int32) (x2 : Int32) (x3 : Int32) (x4 : Int32) (h : Hp) {r4 : Int32 → Int32 → Hp → Option (Int32 × Hp)} {r34 : Int32 → Int32 → Hp → Option (Int32 × Hp)} (px0 : K x0 = some (.inl 11)) (hr4 : ∀ (x2 : Int32) (x3 : Int32) (h : Hp), r4 x2 x3 h = some (v, hf) → Go Γ (0, 0) 4 [(0, .ref x0), (1, .int x1), (2, .int x2), (3, .int x3)] [] sz K h) (hr34 : ∀ (x2 : Int32) (x4 : Int32) (h : Hp), r34 x2 x4 h = some (v, hf) → Go Γ (0, 0) 34 [(0, .ref x0), (1, .int x1), (2, .int x2), (3, .int x3), (4, .int x4)] [] sz K h) : ∀ (k : Nat) (x5 : Int32) (x6 : Int32), f11_rowsAt_L45 K n x0 x1 x2 x3 x4 h r4 r34 k x5 x6 = some (v, hf) → Go Γ (0, 0) 45 [(0, .ref x0), (1, .int x1), (2, .int x2), (3, .int x3), (4, .int x4), (5, .int x5), (6, .int x6)] [] sz K h := by
  intro k
  induction k with
  | zero => intro x5 x6 E; cases E
  | succ k ih =>
    intro x5 x6 E
    unfold f11_rowsAt_L45 at E
    refine g_iload (n := 6) X (by decide +kernel) 6 rfl ?_
    refine g_iload_n (n := 2) X (by decide +kernel) 2 rfl ?_
    rcases it_E E with ⟨c11, E⟩ | ⟨c11, E⟩
    · refine g_icmp_ge_t (off := 33) (tgt := 81) X (by decide +kernel) (by decide) c11 ?_
      refine g_aload_n (n := 0) X (by decide +kernel) 0 rfl ?_
      refine g_getS X (by decide +kernel) fl11_153 px0 ?_
      refine g_iload_n (n := 2) X (by decide +kernel) 2 rfl ?_
      refine g_iload (n := 5) X (by decide +kernel) 5 rfl ?_
      rcases it_E E with ⟨c12, E⟩ | ⟨c12, E⟩
      · refine g_if_eq_t (off := 12) (tgt := 100) X (by decide +kernel) (by decide) c12 ?_
        refine g_iload (n := 4) X (by decide +kernel) 4 rfl ?_
        refine g_sub [0, 1, 2, 3, 4, 5] rfl ?_
        exact w11_rowsAt_J102 X hK x0 x1 x2 x3 x4 x5 (x0 + 48) x2 x4 h hr4 hr34 px0 (ly hK px0 fl11_153 rfl) E
      · refine g_if_eq_f (off := 12) (tgt := 100) X (by decide +kernel) (by decide) c12 ?_
        refine g_aload_n (n := 0) X (by decide +kernel) 0 rfl ?_
        refine g_getS X (by decide +kernel) fl11_153 px0 ?_
        refine g_iload_n (n := 2) X (by decide +kernel) 2 rfl ?_
        obtain ⟨c13, E⟩ := gd_E E
        refine g_iald X (by decide +kernel) (ly hK px0 fl11_153 rfl) c13 ?_
        refine g_goto (off := 5) (tgt := 102) X (by decide +kernel) (by decide) ?_
        refine g_sub [0, 1, 2, 3, 4, 5] rfl ?_
        exact w11_rowsAt_J102 X hK x0 x1 x2 x3 x4 x5 (x0 + 48) x2 (h.1 (x0 + 48) x2.toNatClampNeg) h hr4 hr34 px0 (ly hK px0 fl11_153 rfl) E
    · refine g_icmp_ge_f (off := 33) (tgt := 81) X (by decide +kernel) (by decide) c11 ?_
      refine g_iload (n := 5) X (by decide +kernel) 5 rfl ?_
      rcases it_E E with ⟨c14, E⟩ | ⟨c14, E⟩
      · refine g_if_ne_f (off := 15) (tgt := 68) X (by decide +kernel) (by decide) (fun z => z c14) ?_
        refine g_aload_n (n := 0) X (by decide +kernel) 0 rfl ?_
        refine g_getS X (by decide +kernel) fl11_153 px0 ?_
        refine g_iload (n := 6) X (by decide +kernel) 6 rfl ?_
        obtain ⟨c15, E⟩ := gd_E E
        refine g_iald X (by decide +kernel) (ly hK px0 fl11_153 rfl) c15 ?_
        refine g_iload (n := 4) X (by decide +kernel) 4 rfl ?_
        have hJ : Go Γ (0, 0) 73 [(0, .ref x0), (1, .int x1), (2, .int x2), (3, .int x3), (4, .int x4), (6, .int x6)] [.int (if (h.1 (x0 + 48) x6.toNatClampNeg) = x4 then (1 : Int32) else (0 : Int32))] sz K h := by
          exact w11_rowsAt_J73 X hK x0 x1 x2 x3 x4 x6 (if (h.1 (x0 + 48) x6.toNatClampNeg) = x4 then (1 : Int32) else (0 : Int32)) h hr4 hr34 ih px0 E
        clear E
        by_cases c16 : (h.1 (x0 + 48) x6.toNatClampNeg) = x4
        · rw [if_pos c16] at hJ
          refine g_icmp_ne_f (off := 7) (tgt := 72) X (by decide +kernel) (by decide) (fun z => z c16) ?_
          refine g_iconst (n := 1) (x := (1 : Int32)) X (by decide +kernel) (by decide) ?_
          refine g_goto (off := 4) (tgt := 73) X (by decide +kernel) (by decide) ?_
          refine g_sub [0, 1, 2, 3, 4, 6] rfl ?_
          exact hJ
        · rw [if_neg c16] at hJ
          refine g_icmp_ne_t (off := 7) (tgt := 72) X (by decide +kernel) (by decide) c16 ?_
          refine g_iconst (n := 0) (x := (0 : Int32)) X (by decide +kernel) (by decide) ?_
          refine g_sub [0, 1, 2, 3, 4, 6] rfl ?_
          exact hJ
      · refine g_if_ne_t (off := 15) (tgt := 68) X (by decide +kernel) (by decide) c14 ?_
        refine g_sub [0, 1, 2, 3, 4, 6] rfl ?_
        exact w11_rowsAt_J68 X hK x0 x1 x2 x3 x4 x6 h hr4 hr34 ih px0 E
set_option maxHeartbeats 4000000 in
set_option maxRecDepth 20000 in
theorem w11_rowsAt_L34 {Γ : CT} {sp : Sp} {K : Ly} {sz n : Nat} {v : Int32} {hf : Hp}  (X : Ok Γ sp prog_13_method_104_code Rc11 7 (some (.int)) 3 (some (.int v)) sz K hf) (hK : LyOk K) (x0 : Nat) (x1 : Int32) (x3 : Int32)  {r4 : Int32 → Int32 → Hp → Option (Int32 × Hp)} (px0 : K x0 = some (.inl 11)) (hr4 : ∀ (x2 : Int32) (x3 : Int32) (h : Hp), r4 x2 x3 h = some (v, hf) → Go Γ (0, 0) 4 [(0, .ref x0), (1, .int x1), (2, .int x2), (3, .int x3)] [] sz K h) : ∀ (k : Nat) (x2 : Int32) (x4 : Int32) (h : Hp), f11_rowsAt_L34 K n x0 x1 x3 r4 k x2 x4 h = some (v, hf) → Go Γ (0, 0) 34 [(0, .ref x0), (1, .int x1), (2, .int x2), (3, .int x3), (4, .int x4)] [] sz K h := by
  intro k
  induction k with
  | zero => intro x2 x4 h E; cases E
  | succ k ih =>
    intro x2 x4 h E
    unfold f11_rowsAt_L34 at E
    refine g_iload (n := 4) X (by decide +kernel) 4 rfl ?_
    rcases it_E E with ⟨c9, E⟩ | ⟨c9, E⟩
    · refine g_if_le_t (off := 90) (tgt := 126) X (by decide +kernel) (by decide) c9 ?_
      obtain ⟨x3_10, ex3_10, E⟩ := lt_E E
      refine s_iinc (i := 3) (n := 1) (y := x3_10) X (by decide +kernel) 3 rfl (by decide) ex3_10 (ls_next (by decide) (Or.inr rfl) (ls_next (by decide) (Or.inr rfl) (ls_next (by decide) (Or.inr rfl) (ls_here (ls_next (by decide) (Or.inr rfl) ls_end))))) ?_
      refine g_goto (off := -125) (tgt := 4) X (by decide +kernel) (by decide) ?_
      refine g_sub [0, 1, 2, 3] rfl ?_
      exact hr4 x2 x3_10 h  E
    · refine g_if_le_f (off := 90) (tgt := 126) X (by decide +kernel) (by decide) c9 ?_
      refine g_iconst (n := 0) (x := (0 : Int32)) X (by decide +kernel) (by decide) ?_
      refine s_istore (i := 5) X (by decide +kernel) (by decide) rfl (ls_next (by decide) (Or.inr rfl) (ls_next (by decide) (Or.inr rfl) (ls_next (by decide) (Or.inr rfl) (ls_next (by decide) (Or.inr rfl) (ls_next (by decide) (Or.inr rfl) (ls_ins ls_end)))))) ?_
      refine g_iconst (n := 0) (x := (0 : Int32)) X (by decide +kernel) (by decide) ?_
      refine s_istore (i := 6) X (by decide +kernel) (by decide) rfl (ls_next (by decide) (Or.inr rfl) (ls_next (by decide) (Or.inr rfl) (ls_next (by decide) (Or.inr rfl) (ls_next (by decide) (Or.inr rfl) (ls_next (by decide) (Or.inr rfl) (ls_next (by decide) (Or.inr rfl) (ls_ins ls_end))))))) ?_
      exact w11_rowsAt_L45 X hK x0 x1 x2 x3 x4 h px0 hr4 ih n (0 : Int32) (0 : Int32) E
set_option maxHeartbeats 4000000 in
set_option maxRecDepth 20000 in
theorem w11_rowsAt_J32 {Γ : CT} {sp : Sp} {K : Ly} {sz n : Nat} {v : Int32} {hf : Hp}  {r4 : Int32 → Int32 → Hp → Option (Int32 × Hp)}  (X : Ok Γ sp prog_13_method_104_code Rc11 7 (some (.int)) 3 (some (.int v)) sz K hf) (hK : LyOk K) (x0 : Nat) (x1 : Int32) (x2 : Int32) (x3 : Int32) (s0 : Int32) (h : Hp) (hr4 : ∀ (x2 : Int32) (x3 : Int32) (h : Hp), r4 x2 x3 h = some (v, hf) → Go Γ (0, 0) 4 [(0, .ref x0), (1, .int x1), (2, .int x2), (3, .int x3)] [] sz K h) (px0 : K x0 = some (.inl 11)) (E : f11_rowsAt_J32 K n r4 x0 x1 x2 x3 s0 h = some (v, hf)) : Go Γ (0, 0) 32 [(0, .ref x0), (1, .int x1), (2, .int x2), (3, .int x3)] [.int s0] sz K h := by
  unfold f11_rowsAt_J32 at E
  refine s_istore (i := 4) X (by decide +kernel) (by decide) rfl (ls_next (by decide) (Or.inr rfl) (ls_next (by decide) (Or.inr rfl) (ls_next (by decide) (Or.inr rfl) (ls_next (by decide) (Or.inr rfl) (ls_ins ls_end))))) ?_
  exact w11_rowsAt_L34 X hK x0 x1 x3 px0 hr4 n x2 s0 h E
set_option maxHeartbeats 4000000 in
set_option maxRecDepth 20000 in
theorem w11_rowsAt_L4 {Γ : CT} {sp : Sp} {K : Ly} {sz n : Nat} {v : Int32} {hf : Hp}  (X : Ok Γ sp prog_13_method_104_code Rc11 7 (some (.int)) 3 (some (.int v)) sz K hf) (hK : LyOk K) (x0 : Nat) (x1 : Int32)  (px0 : K x0 = some (.inl 11))  : ∀ (k : Nat) (x2 : Int32) (x3 : Int32) (h : Hp), f11_rowsAt_L4 K n x0 x1  k x2 x3 h = some (v, hf) → Go Γ (0, 0) 4 [(0, .ref x0), (1, .int x1), (2, .int x2), (3, .int x3)] [] sz K h := by
  intro k
  induction k with
  | zero => intro x2 x3 h E; cases E
  | succ k ih =>
    intro x2 x3 h E
    unfold f11_rowsAt_L4 at E
    refine g_iload_n (n := 3) X (by decide +kernel) 3 rfl ?_
    refine g_aload_n (n := 0) X (by decide +kernel) 0 rfl ?_
    obtain ⟨y2, e1, E⟩ := bp_E E
    refine g_callV1 (st := [.int x3]) X [] (by decide +kernel) ml11_357 px0 rfl rfl (by decide) (Nat.le_of_ble_eq_true rfl) (c11_routes hK x0 h px0 e1) ?_
    rcases it_E E with ⟨c3, E⟩ | ⟨c3, E⟩
    · refine g_icmp_ge_t (off := 123) (tgt := 132) X (by decide +kernel) (by decide) c3 ?_
      refine g_iload_n (n := 2) X (by decide +kernel) 2 rfl ?_
      obtain ⟨rfl, rfl⟩ := rt_E E
      exact g_ireturn X (by decide +kernel)
    · refine g_icmp_ge_f (off := 123) (tgt := 132) X (by decide +kernel) (by decide) c3 ?_
      refine g_aload_n (n := 0) X (by decide +kernel) 0 rfl ?_
      refine g_iload_n (n := 3) X (by decide +kernel) 3 rfl ?_
      refine g_iconst (n := 0) (x := (0 : Int32)) X (by decide +kernel) (by decide) ?_
      obtain ⟨y5, e4, E⟩ := bp_E E
      refine g_callV1 (st := []) X [.int x3, .int (0 : Int32)] (by decide +kernel) ml11_360 px0 rfl rfl (by decide) (Nat.le_of_ble_eq_true rfl) (c11_routeAt hK x0 x3 (0 : Int32) h px0 e4) ?_
      refine g_iload_n (n := 1) X (by decide +kernel) 1 rfl ?_
      rcases it_E E with ⟨c6, E⟩ | ⟨c6, E⟩
      · refine g_icmp_ne_f (off := 12) (tgt := 31) X (by decide +kernel) (by decide) (fun z => z c6) ?_
        refine g_aload_n (n := 0) X (by decide +kernel) 0 rfl ?_
        refine g_iload_n (n := 3) X (by decide +kernel) 3 rfl ?_
        refine g_iconst (n := 1) (x := (1 : Int32)) X (by decide +kernel) (by decide) ?_
        obtain ⟨y8, e7, E⟩ := bp_E E
        refine g_callV1 (st := []) X [.int x3, .int (1 : Int32)] (by decide +kernel) ml11_360 px0 rfl rfl (by decide) (Nat.le_of_ble_eq_true rfl) (c11_routeAt hK x0 x3 (1 : Int32) h px0 e7) ?_
        refine g_goto (off := 4) (tgt := 32) X (by decide +kernel) (by decide) ?_
        exact w11_rowsAt_J32 X hK x0 x1 x2 x3 y8 h ih px0 E
      · refine g_icmp_ne_t (off := 12) (tgt := 31) X (by decide +kernel) (by decide) c6 ?_
        refine g_iconst (n := 0) (x := (0 : Int32)) X (by decide +kernel) (by decide) ?_
        exact w11_rowsAt_J32 X hK x0 x1 x2 x3 (0 : Int32) h ih px0 E
set_option maxHeartbeats 4000000 in
set_option maxRecDepth 20000 in
theorem c11_rowsAt {sp : Sp} {K : Ly} {sz n : Nat} (hK : LyOk K) (o : Nat) (a1 : Int32) (h : Hp) (ho : K o = some (.inl 11)) {v : Int32} {hf : Hp} (E : f11_rowsAt K n o a1 h = some (v, hf)) : Con sp y11_rowsAt prog_13_method_104_code 7 (some (.int)) 3 0 0 [.ref o, .int a1] sz K h (some (.int v)) sz K hf := by
  refine Con.of (by decide) (Nat.le_of_ble_eq_true rfl) (fun Γ X _ => ?_)
  show Go Γ (0, 0) 0 [(0, .ref o), (1, .int a1)] [] sz K h
  unfold f11_rowsAt at E
  refine g_iconst (n := 0) (x := (0 : Int32)) X (by decide +kernel) (by decide) ?_
  refine s_istore_n (n := 2) (i := 2) X (by decide +kernel) rfl (by decide) rfl (ls_next (by decide) (Or.inr rfl) (ls_next (by decide) (Or.inr rfl) (ls_ins ls_end))) ?_
  refine g_iconst (n := 0) (x := (0 : Int32)) X (by decide +kernel) (by decide) ?_
  refine s_istore_n (n := 3) (i := 3) X (by decide +kernel) rfl (by decide) rfl (ls_next (by decide) (Or.inr rfl) (ls_next (by decide) (Or.inr rfl) (ls_next (by decide) (Or.inr rfl) (ls_ins ls_end)))) ?_
  exact w11_rowsAt_L4 X hK o a1 ho n (0 : Int32) (0 : Int32) h E
-- AskedNamesModel.table
def f11_table_J75 (K : Ly) (n : Nat) (r48 : Int32 → Int32 → Option (Int32 × Hp)) (x0 : Nat) (x2 : Int32) (x5 : Int32) (s0 : Int32) (s1 : Int32) (h : Hp) : Option (Int32 × Hp) :=
    lt (s0 + s1) fun x4_20 =>
    lt (x5 + (1 : Int32)) fun x5_21 =>
    r48 x4_20 x5_21
def f11_table_L48 (K : Ly) (n : Nat) (x0 : Nat) (x2 : Int32) (h : Hp)  : Nat → Int32 → Int32 → Option (Int32 × Hp)
  | 0, _, _ => none
  | k + 1, x4, x5 =>
    bp (f11_routes K n x0 h) fun y15 =>
    if y15 ≤ x5 then (
    some (x4, h))
    else (
    bp (f11_routeAt K n x0 x5 (0 : Int32) h) fun y18 =>
    f11_table_J75 K n (f11_table_L48 K n x0 x2 h  k) x0 x2 x5 x4 (if y18 = x2 then (1 : Int32) else (0 : Int32)) h)
def f11_table (K : Ly) (n : Nat) (o : Nat) (a1 : Int32) (a2 : Int32) (a3 : Int32) (h : Hp) : Option (Int32 × Hp) :=
    lt (sI h o 0 (0 : Int32)) fun h1 =>
    bd (f11_hasNet K n o a1 h1) fun y4 h3 =>
    if y4 = 0 then (
    some ((-1 : Int32), h3))
    else (
    bp (f11_isNode K n o a2 h3) fun y7 =>
    if y7 = 0 then (
    some ((-1 : Int32), h3))
    else (
    if (f11_in a3 (0 : Int32) (1 : Int32)) = 0 then (
    some ((-1 : Int32), h3))
    else (
    if a3 = 0 then (
    bd (f11_rowsAt K n o a2 h3) fun y13 h12 =>
    some (y13, h12))
    else (
    f11_table_L48 K n o a2 h3 n (0 : Int32) (0 : Int32)))))
set_option maxHeartbeats 4000000 in
set_option maxRecDepth 20000 in
theorem w11_table_J75 {Γ : CT} {sp : Sp} {K : Ly} {sz n : Nat} {v : Int32} {hf : Hp}  {r48 : Int32 → Int32 → Option (Int32 × Hp)}  (X : Ok Γ sp prog_13_method_105_code Rc11 6 (some (.int)) 4 (some (.int v)) sz K hf) (hK : LyOk K) (x0 : Nat) (x2 : Int32) (x5 : Int32) (s0 : Int32) (s1 : Int32) (h : Hp) (hr48 : ∀ (x4 : Int32) (x5 : Int32), r48 x4 x5 = some (v, hf) → Go Γ (0, 0) 48 [(0, .ref x0), (2, .int x2), (4, .int x4), (5, .int x5)] [] sz K h) (px0 : K x0 = some (.inl 11)) (E : f11_table_J75 K n r48 x0 x2 x5 s0 s1 h = some (v, hf)) : Go Γ (0, 0) 75 [(0, .ref x0), (2, .int x2), (5, .int x5)] [.int s1, .int s0] sz K h := by
  unfold f11_table_J75 at E
  refine g_iadd X (by decide +kernel) ?_
  obtain ⟨x4_20, ex4_20, E⟩ := lt_E E
  refine s_istore (i := 4) X (by decide +kernel) (by decide) ex4_20 (ls_next (by decide) (Or.inr rfl) (ls_next (by decide) (Or.inr rfl) (ls_ins (ls_next (by decide) (Or.inr rfl) ls_end)))) ?_
  obtain ⟨x5_21, ex5_21, E⟩ := lt_E E
  refine s_iinc (i := 5) (n := 1) (y := x5_21) X (by decide +kernel) 3 rfl (by decide) ex5_21 (ls_next (by decide) (Or.inr rfl) (ls_next (by decide) (Or.inr rfl) (ls_next (by decide) (Or.inr rfl) (ls_here ls_end)))) ?_
  refine g_goto (off := -33) (tgt := 48) X (by decide +kernel) (by decide) ?_
  exact hr48 x4_20 x5_21  E
set_option maxHeartbeats 4000000 in
set_option maxRecDepth 20000 in
theorem w11_table_L48 {Γ : CT} {sp : Sp} {K : Ly} {sz n : Nat} {v : Int32} {hf : Hp}  (X : Ok Γ sp prog_13_method_105_code Rc11 6 (some (.int)) 4 (some (.int v)) sz K hf) (hK : LyOk K) (x0 : Nat) (x2 : Int32) (h : Hp) (px0 : K x0 = some (.inl 11))  : ∀ (k : Nat) (x4 : Int32) (x5 : Int32), f11_table_L48 K n x0 x2 h  k x4 x5 = some (v, hf) → Go Γ (0, 0) 48 [(0, .ref x0), (2, .int x2), (4, .int x4), (5, .int x5)] [] sz K h := by
  intro k
  induction k with
  | zero => intro x4 x5 E; cases E
  | succ k ih =>
    intro x4 x5 E
    unfold f11_table_L48 at E
    refine g_iload (n := 5) X (by decide +kernel) 3 rfl ?_
    refine g_aload_n (n := 0) X (by decide +kernel) 0 rfl ?_
    obtain ⟨y15, e14, E⟩ := bp_E E
    refine g_callV1 (st := [.int x5]) X [] (by decide +kernel) ml11_357 px0 rfl rfl (by decide) (Nat.le_of_ble_eq_true rfl) (c11_routes hK x0 h px0 e14) ?_
    rcases it_E E with ⟨c16, E⟩ | ⟨c16, E⟩
    · refine g_icmp_ge_t (off := 30) (tgt := 84) X (by decide +kernel) (by decide) c16 ?_
      refine g_iload (n := 4) X (by decide +kernel) 2 rfl ?_
      obtain ⟨rfl, rfl⟩ := rt_E E
      exact g_ireturn X (by decide +kernel)
    · refine g_icmp_ge_f (off := 30) (tgt := 84) X (by decide +kernel) (by decide) c16 ?_
      refine g_iload (n := 4) X (by decide +kernel) 2 rfl ?_
      refine g_aload_n (n := 0) X (by decide +kernel) 0 rfl ?_
      refine g_iload (n := 5) X (by decide +kernel) 3 rfl ?_
      refine g_iconst (n := 0) (x := (0 : Int32)) X (by decide +kernel) (by decide) ?_
      obtain ⟨y18, e17, E⟩ := bp_E E
      refine g_callV1 (st := [.int x4]) X [.int x5, .int (0 : Int32)] (by decide +kernel) ml11_360 px0 rfl rfl (by decide) (Nat.le_of_ble_eq_true rfl) (c11_routeAt hK x0 x5 (0 : Int32) h px0 e17) ?_
      refine g_iload_n (n := 2) X (by decide +kernel) 1 rfl ?_
      have hJ : Go Γ (0, 0) 75 [(0, .ref x0), (2, .int x2), (5, .int x5)] [.int (if y18 = x2 then (1 : Int32) else (0 : Int32)), .int x4] sz K h := by
        exact w11_table_J75 X hK x0 x2 x5 x4 (if y18 = x2 then (1 : Int32) else (0 : Int32)) h ih px0 E
      clear E
      by_cases c19 : y18 = x2
      · rw [if_pos c19] at hJ
        refine g_icmp_ne_f (off := 7) (tgt := 74) X (by decide +kernel) (by decide) (fun z => z c19) ?_
        refine g_iconst (n := 1) (x := (1 : Int32)) X (by decide +kernel) (by decide) ?_
        refine g_goto (off := 4) (tgt := 75) X (by decide +kernel) (by decide) ?_
        refine g_sub [0, 1, 3] rfl ?_
        exact hJ
      · rw [if_neg c19] at hJ
        refine g_icmp_ne_t (off := 7) (tgt := 74) X (by decide +kernel) (by decide) c19 ?_
        refine g_iconst (n := 0) (x := (0 : Int32)) X (by decide +kernel) (by decide) ?_
        refine g_sub [0, 1, 3] rfl ?_
        exact hJ
set_option maxHeartbeats 4000000 in
set_option maxRecDepth 20000 in
theorem c11_table {sp : Sp} {K : Ly} {sz n : Nat} (hK : LyOk K) (o : Nat) (a1 : Int32) (a2 : Int32) (a3 : Int32) (h : Hp) (ho : K o = some (.inl 11)) {v : Int32} {hf : Hp} (E : f11_table K n o a1 a2 a3 h = some (v, hf)) : Con sp y11_table prog_13_method_105_code 6 (some (.int)) 4 0 0 [.ref o, .int a1, .int a2, .int a3] sz K h (some (.int v)) sz K hf := by
  refine Con.of (by decide) (Nat.le_of_ble_eq_true rfl) (fun Γ X _ => ?_)
  show Go Γ (0, 0) 0 [(0, .ref o), (1, .int a1), (2, .int a2), (3, .int a3)] [] sz K h
  unfold f11_table at E
  refine g_aload_n (n := 0) X (by decide +kernel) 0 rfl ?_
  refine g_iconst (n := 0) (x := (0 : Int32)) X (by decide +kernel) (by decide) ?_
  obtain ⟨h1, eh1, E⟩ := lt_E E
  refine g_putI X (by decide +kernel) fp11_169 ho eh1 ?_
  refine g_aload_n (n := 0) X (by decide +kernel) 0 rfl ?_
  refine g_iload_n (n := 1) X (by decide +kernel) 1 rfl ?_
  obtain ⟨y4, h3, e2, E⟩ := bd_E E
  refine g_callV1 (st := []) X [.int a1] (by decide +kernel) ml11_372 ho rfl rfl (by decide) (Nat.le_of_ble_eq_true rfl) (c11_hasNet hK o a1 h1 ho e2) ?_
  rcases it_E E with ⟨c5, E⟩ | ⟨c5, E⟩
  · refine g_if_eq_t (off := 20) (tgt := 30) X (by decide +kernel) (by decide) c5 ?_
    refine g_iconst (n := -1) (x := (-1 : Int32)) X (by decide +kernel) (by decide) ?_
    obtain ⟨rfl, rfl⟩ := rt_E E
    exact g_ireturn X (by decide +kernel)
  · refine g_if_eq_f (off := 20) (tgt := 30) X (by decide +kernel) (by decide) c5 ?_
    refine g_aload_n (n := 0) X (by decide +kernel) 0 rfl ?_
    refine g_iload_n (n := 2) X (by decide +kernel) 2 rfl ?_
    obtain ⟨y7, e6, E⟩ := bp_E E
    refine g_callV1 (st := []) X [.int a2] (by decide +kernel) ml11_375 ho rfl rfl (by decide) (Nat.le_of_ble_eq_true rfl) (c11_isNode hK o a2 h3 ho e6) ?_
    rcases it_E E with ⟨c8, E⟩ | ⟨c8, E⟩
    · refine g_if_eq_t (off := 12) (tgt := 30) X (by decide +kernel) (by decide) c8 ?_
      refine g_iconst (n := -1) (x := (-1 : Int32)) X (by decide +kernel) (by decide) ?_
      obtain ⟨rfl, rfl⟩ := rt_E E
      exact g_ireturn X (by decide +kernel)
    · refine g_if_eq_f (off := 12) (tgt := 30) X (by decide +kernel) (by decide) c8 ?_
      refine g_iload_n (n := 3) X (by decide +kernel) 3 rfl ?_
      refine g_iconst (n := 0) (x := (0 : Int32)) X (by decide +kernel) (by decide) ?_
      refine g_iconst (n := 1) (x := (1 : Int32)) X (by decide +kernel) (by decide) ?_
      refine g_callS1 (st := []) X [.int a3, .int (0 : Int32), .int (1 : Int32)] (by decide +kernel) ml11_181 (by decide) (Nat.le_of_ble_eq_true rfl) (c11_in hK a3 (0 : Int32) (1 : Int32) h3 ) ?_
      rcases it_E E with ⟨c9, E⟩ | ⟨c9, E⟩
      · refine g_if_ne_f (off := 5) (tgt := 32) X (by decide +kernel) (by decide) (fun z => z c9) ?_
        refine g_iconst (n := -1) (x := (-1 : Int32)) X (by decide +kernel) (by decide) ?_
        obtain ⟨rfl, rfl⟩ := rt_E E
        exact g_ireturn X (by decide +kernel)
      · refine g_if_ne_t (off := 5) (tgt := 32) X (by decide +kernel) (by decide) c9 ?_
        refine g_iload_n (n := 3) X (by decide +kernel) 3 rfl ?_
        rcases it_E E with ⟨c10, E⟩ | ⟨c10, E⟩
        · refine g_if_ne_f (off := 9) (tgt := 42) X (by decide +kernel) (by decide) (fun z => z c10) ?_
          refine g_aload_n (n := 0) X (by decide +kernel) 0 rfl ?_
          refine g_iload_n (n := 2) X (by decide +kernel) 2 rfl ?_
          obtain ⟨y13, h12, e11, E⟩ := bd_E E
          refine g_callV1 (st := []) X [.int a2] (by decide +kernel) ml11_576 ho rfl rfl (by decide) (Nat.le_of_ble_eq_true rfl) (c11_rowsAt hK o a2 h3 ho e11) ?_
          obtain ⟨rfl, rfl⟩ := rt_E E
          exact g_ireturn X (by decide +kernel)
        · refine g_if_ne_t (off := 9) (tgt := 42) X (by decide +kernel) (by decide) c10 ?_
          refine g_iconst (n := 0) (x := (0 : Int32)) X (by decide +kernel) (by decide) ?_
          refine s_istore (i := 4) X (by decide +kernel) (by decide) rfl (ls_next (by decide) (Or.inr rfl) (ls_next (by decide) (Or.inr rfl) (ls_next (by decide) (Or.inr rfl) (ls_next (by decide) (Or.inr rfl) (ls_ins ls_end))))) ?_
          refine g_iconst (n := 0) (x := (0 : Int32)) X (by decide +kernel) (by decide) ?_
          refine s_istore (i := 5) X (by decide +kernel) (by decide) rfl (ls_next (by decide) (Or.inr rfl) (ls_next (by decide) (Or.inr rfl) (ls_next (by decide) (Or.inr rfl) (ls_next (by decide) (Or.inr rfl) (ls_next (by decide) (Or.inr rfl) (ls_ins ls_end)))))) ?_
          refine g_sub [0, 2, 4, 5] rfl ?_
          exact w11_table_L48 X hK o a2 h3 ho n (0 : Int32) (0 : Int32) E
-- AskedNamesModel.ways
def f11_ways_J126 (K : Ly) (n : Nat) (r57 : Int32 → Int32 → Option (Int32 × Hp)) (x0 : Nat) (x2 : Int32) (x3 : Int32) (x5 : Int32) (x7 : Int32) (s0 : Int32) (s1 : Int32) (h : Hp) : Option (Int32 × Hp) :=
    lt (s0 ||| s1) fun x6_32 =>
    lt (x7 + (1 : Int32)) fun x7_33 =>
    r57 x6_32 x7_33
def f11_ways_J104 (K : Ly) (n : Nat) (r57 : Int32 → Int32 → Option (Int32 × Hp)) (x0 : Nat) (x2 : Int32) (x3 : Int32) (x5 : Int32) (x6 : Int32) (x7 : Int32) (s0 : Int32) (h : Hp) : Option (Int32 × Hp) :=
    if s0 = 0 then (
    f11_ways_J126 K n (r57) x0 x2 x3 x5 x7 x6 (0 : Int32) h)
    else (
    bp (f11_routeAt K n x0 x7 (2 : Int32) h) fun y31 =>
    f11_ways_J126 K n (r57) x0 x2 x3 x5 x7 x6 ((1 : Int32) <<< (y31 &&& 31)) h)
def f11_ways_J103 (K : Ly) (n : Nat) (r57 : Int32 → Int32 → Option (Int32 × Hp)) (x0 : Nat) (x2 : Int32) (x3 : Int32) (x5 : Int32) (x6 : Int32) (x7 : Int32) (h : Hp) : Option (Int32 × Hp) :=
    f11_ways_J104 K n (r57) x0 x2 x3 x5 x6 x7 (0 : Int32) h
def f11_ways_L57 (K : Ly) (n : Nat) (x0 : Nat) (x2 : Int32) (x3 : Int32) (x5 : Int32) (h : Hp)  : Nat → Int32 → Int32 → Option (Int32 × Hp)
  | 0, _, _ => none
  | k + 1, x6, x7 =>
    bp (f11_routes K n x0 h) fun y18 =>
    if y18 ≤ x7 then (
    some (x6, h))
    else (
    if x5 ≤ 0 then (
    f11_ways_J103 K n (f11_ways_L57 K n x0 x2 x3 x5 h  k) x0 x2 x3 x5 x6 x7 h)
    else (
    bp (f11_isRoute K n x0 x7 x2 x3 x5 h) fun y22 =>
    if y22 = 0 then (
    f11_ways_J103 K n (f11_ways_L57 K n x0 x2 x3 x5 h  k) x0 x2 x3 x5 x6 x7 h)
    else (
    bp (f11_routeAt K n x0 x7 (2 : Int32) h) fun y25 =>
    bp (f11_isUp K n x0 x2 y25 h) fun y27 =>
    f11_ways_J104 K n (f11_ways_L57 K n x0 x2 x3 x5 h  k) x0 x2 x3 x5 x6 x7 (if y27 = 0 then (0 : Int32) else (1 : Int32)) h)))
def f11_ways (K : Ly) (n : Nat) (o : Nat) (a1 : Int32) (a2 : Int32) (a3 : Int32) (a4 : Int32) (h : Hp) : Option (Int32 × Hp) :=
    lt (sI h o 0 (0 : Int32)) fun h1 =>
    bd (f11_hasNet K n o a1 h1) fun y4 h3 =>
    if y4 = 0 then (
    some ((-1 : Int32), h3))
    else (
    bp (f11_isNode K n o a2 h3) fun y7 =>
    if y7 = 0 then (
    some ((-1 : Int32), h3))
    else (
    bp (f11_isName K n a3 h3) fun y10 =>
    if y10 = 0 then (
    some ((-1 : Int32), h3))
    else (
    bp (f11_begin K n o (-1 : Int32) h3) fun h13 =>
    bp (f11_longestAt K n o a2 a3 h13) fun y15 =>
    if a4 = 0 then (
    f11_ways_L57 K n o a2 a3 y15 h13 n (0 : Int32) (0 : Int32))
    else (
    some (y15, h13)))))
set_option maxHeartbeats 4000000 in
set_option maxRecDepth 20000 in
theorem w11_ways_J126 {Γ : CT} {sp : Sp} {K : Ly} {sz n : Nat} {v : Int32} {hf : Hp}  {r57 : Int32 → Int32 → Option (Int32 × Hp)}  (X : Ok Γ sp prog_13_method_106_code Rc11 9 (some (.int)) 5 (some (.int v)) sz K hf) (hK : LyOk K) (x0 : Nat) (x2 : Int32) (x3 : Int32) (x5 : Int32) (x7 : Int32) (s0 : Int32) (s1 : Int32) (h : Hp) (hr57 : ∀ (x6 : Int32) (x7 : Int32), r57 x6 x7 = some (v, hf) → Go Γ (0, 0) 57 [(0, .ref x0), (2, .int x2), (3, .int x3), (5, .int x5), (6, .int x6), (7, .int x7)] [] sz K h) (px0 : K x0 = some (.inl 11)) (E : f11_ways_J126 K n r57 x0 x2 x3 x5 x7 s0 s1 h = some (v, hf)) : Go Γ (0, 0) 126 [(0, .ref x0), (2, .int x2), (3, .int x3), (5, .int x5), (7, .int x7)] [.int s1, .int s0] sz K h := by
  unfold f11_ways_J126 at E
  refine g_ior X (by decide +kernel) ?_
  obtain ⟨x6_32, ex6_32, E⟩ := lt_E E
  refine s_istore (i := 6) X (by decide +kernel) (by decide) ex6_32 (ls_next (by decide) (Or.inr rfl) (ls_next (by decide) (Or.inr rfl) (ls_next (by decide) (Or.inr rfl) (ls_next (by decide) (Or.inr rfl) (ls_ins (ls_next (by decide) (Or.inr rfl) ls_end)))))) ?_
  obtain ⟨x7_33, ex7_33, E⟩ := lt_E E
  refine s_iinc (i := 7) (n := 1) (y := x7_33) X (by decide +kernel) 5 rfl (by decide) ex7_33 (ls_next (by decide) (Or.inr rfl) (ls_next (by decide) (Or.inr rfl) (ls_next (by decide) (Or.inr rfl) (ls_next (by decide) (Or.inr rfl) (ls_next (by decide) (Or.inr rfl) (ls_here ls_end)))))) ?_
  refine g_goto (off := -75) (tgt := 57) X (by decide +kernel) (by decide) ?_
  exact hr57 x6_32 x7_33  E
set_option maxHeartbeats 4000000 in
set_option maxRecDepth 20000 in
theorem w11_ways_J104 {Γ : CT} {sp : Sp} {K : Ly} {sz n : Nat} {v : Int32} {hf : Hp}  {r57 : Int32 → Int32 → Option (Int32 × Hp)}  (X : Ok Γ sp prog_13_method_106_code Rc11 9 (some (.int)) 5 (some (.int v)) sz K hf) (hK : LyOk K) (x0 : Nat) (x2 : Int32) (x3 : Int32) (x5 : Int32) (x6 : Int32) (x7 : Int32) (s0 : Int32) (h : Hp) (hr57 : ∀ (x6 : Int32) (x7 : Int32), r57 x6 x7 = some (v, hf) → Go Γ (0, 0) 57 [(0, .ref x0), (2, .int x2), (3, .int x3), (5, .int x5), (6, .int x6), (7, .int x7)] [] sz K h) (px0 : K x0 = some (.inl 11)) (E : f11_ways_J104 K n r57 x0 x2 x3 x5 x6 x7 s0 h = some (v, hf)) : Go Γ (0, 0) 104 [(0, .ref x0), (2, .int x2), (3, .int x3), (5, .int x5), (6, .int x6), (7, .int x7)] [.int s0] sz K h := by
  unfold f11_ways_J104 at E
  refine s_istore (i := 8) X (by decide +kernel) (by decide) rfl (ls_next (by decide) (Or.inr rfl) (ls_next (by decide) (Or.inr rfl) (ls_next (by decide) (Or.inr rfl) (ls_next (by decide) (Or.inr rfl) (ls_next (by decide) (Or.inr rfl) (ls_next (by decide) (Or.inr rfl) (ls_ins ls_end))))))) ?_
  refine g_iload (n := 6) X (by decide +kernel) 4 rfl ?_
  refine g_iload (n := 8) X (by decide +kernel) 6 rfl ?_
  rcases it_E E with ⟨c29, E⟩ | ⟨c29, E⟩
  · refine g_if_eq_t (off := 15) (tgt := 125) X (by decide +kernel) (by decide) c29 ?_
    refine g_iconst (n := 0) (x := (0 : Int32)) X (by decide +kernel) (by decide) ?_
    refine g_sub [0, 1, 2, 3, 5] rfl ?_
    exact w11_ways_J126 X hK x0 x2 x3 x5 x7 x6 (0 : Int32) h hr57 px0 E
  · refine g_if_eq_f (off := 15) (tgt := 125) X (by decide +kernel) (by decide) c29 ?_
    refine g_iconst (n := 1) (x := (1 : Int32)) X (by decide +kernel) (by decide) ?_
    refine g_aload_n (n := 0) X (by decide +kernel) 0 rfl ?_
    refine g_iload (n := 7) X (by decide +kernel) 5 rfl ?_
    refine g_iconst (n := 2) (x := (2 : Int32)) X (by decide +kernel) (by decide) ?_
    obtain ⟨y31, e30, E⟩ := bp_E E
    refine g_callV1 (st := [.int (1 : Int32), .int x6]) X [.int x7, .int (2 : Int32)] (by decide +kernel) ml11_360 px0 rfl rfl (by decide) (Nat.le_of_ble_eq_true rfl) (c11_routeAt hK x0 x7 (2 : Int32) h px0 e30) ?_
    refine g_ishl X (by decide +kernel) ?_
    refine g_goto (off := 4) (tgt := 126) X (by decide +kernel) (by decide) ?_
    refine g_sub [0, 1, 2, 3, 5] rfl ?_
    exact w11_ways_J126 X hK x0 x2 x3 x5 x7 x6 ((1 : Int32) <<< (y31 &&& 31)) h hr57 px0 E
set_option maxHeartbeats 4000000 in
set_option maxRecDepth 20000 in
theorem w11_ways_J103 {Γ : CT} {sp : Sp} {K : Ly} {sz n : Nat} {v : Int32} {hf : Hp}  {r57 : Int32 → Int32 → Option (Int32 × Hp)}  (X : Ok Γ sp prog_13_method_106_code Rc11 9 (some (.int)) 5 (some (.int v)) sz K hf) (hK : LyOk K) (x0 : Nat) (x2 : Int32) (x3 : Int32) (x5 : Int32) (x6 : Int32) (x7 : Int32) (h : Hp) (hr57 : ∀ (x6 : Int32) (x7 : Int32), r57 x6 x7 = some (v, hf) → Go Γ (0, 0) 57 [(0, .ref x0), (2, .int x2), (3, .int x3), (5, .int x5), (6, .int x6), (7, .int x7)] [] sz K h) (px0 : K x0 = some (.inl 11)) (E : f11_ways_J103 K n r57 x0 x2 x3 x5 x6 x7 h = some (v, hf)) : Go Γ (0, 0) 103 [(0, .ref x0), (2, .int x2), (3, .int x3), (5, .int x5), (6, .int x6), (7, .int x7)] [] sz K h := by
  unfold f11_ways_J103 at E
  refine g_iconst (n := 0) (x := (0 : Int32)) X (by decide +kernel) (by decide) ?_
  exact w11_ways_J104 X hK x0 x2 x3 x5 x6 x7 (0 : Int32) h hr57 px0 E
set_option maxHeartbeats 4000000 in
set_option maxRecDepth 20000 in
theorem w11_ways_L57 {Γ : CT} {sp : Sp} {K : Ly} {sz n : Nat} {v : Int32} {hf : Hp}  (X : Ok Γ sp prog_13_method_106_code Rc11 9 (some (.int)) 5 (some (.int v)) sz K hf) (hK : LyOk K) (x0 : Nat) (x2 : Int32) (x3 : Int32) (x5 : Int32) (h : Hp) (px0 : K x0 = some (.inl 11))  : ∀ (k : Nat) (x6 : Int32) (x7 : Int32), f11_ways_L57 K n x0 x2 x3 x5 h  k x6 x7 = some (v, hf) → Go Γ (0, 0) 57 [(0, .ref x0), (2, .int x2), (3, .int x3), (5, .int x5), (6, .int x6), (7, .int x7)] [] sz K h := by
  intro k
  induction k with
  | zero => intro x6 x7 E; cases E
  | succ k ih =>
    intro x6 x7 E
    unfold f11_ways_L57 at E
    refine g_iload (n := 7) X (by decide +kernel) 5 rfl ?_
    refine g_aload_n (n := 0) X (by decide +kernel) 0 rfl ?_
    obtain ⟨y18, e17, E⟩ := bp_E E
    refine g_callV1 (st := [.int x7]) X [] (by decide +kernel) ml11_357 px0 rfl rfl (by decide) (Nat.le_of_ble_eq_true rfl) (c11_routes hK x0 h px0 e17) ?_
    rcases it_E E with ⟨c19, E⟩ | ⟨c19, E⟩
    · refine g_icmp_ge_t (off := 72) (tgt := 135) X (by decide +kernel) (by decide) c19 ?_
      refine g_iload (n := 6) X (by decide +kernel) 4 rfl ?_
      obtain ⟨rfl, rfl⟩ := rt_E E
      exact g_ireturn X (by decide +kernel)
    · refine g_icmp_ge_f (off := 72) (tgt := 135) X (by decide +kernel) (by decide) c19 ?_
      refine g_iload (n := 5) X (by decide +kernel) 3 rfl ?_
      rcases it_E E with ⟨c20, E⟩ | ⟨c20, E⟩
      · refine g_if_le_t (off := 35) (tgt := 103) X (by decide +kernel) (by decide) c20 ?_
        exact w11_ways_J103 X hK x0 x2 x3 x5 x6 x7 h ih px0 E
      · refine g_if_le_f (off := 35) (tgt := 103) X (by decide +kernel) (by decide) c20 ?_
        refine g_aload_n (n := 0) X (by decide +kernel) 0 rfl ?_
        refine g_iload (n := 7) X (by decide +kernel) 5 rfl ?_
        refine g_iload_n (n := 2) X (by decide +kernel) 1 rfl ?_
        refine g_iload_n (n := 3) X (by decide +kernel) 2 rfl ?_
        refine g_iload (n := 5) X (by decide +kernel) 3 rfl ?_
        obtain ⟨y22, e21, E⟩ := bp_E E
        refine g_callV1 (st := []) X [.int x7, .int x2, .int x3, .int x5] (by decide +kernel) ml11_446 px0 rfl rfl (by decide) (Nat.le_of_ble_eq_true rfl) (c11_isRoute hK x0 x7 x2 x3 x5 h px0 e21) ?_
        rcases it_E E with ⟨c23, E⟩ | ⟨c23, E⟩
        · refine g_if_eq_t (off := 22) (tgt := 103) X (by decide +kernel) (by decide) c23 ?_
          exact w11_ways_J103 X hK x0 x2 x3 x5 x6 x7 h ih px0 E
        · refine g_if_eq_f (off := 22) (tgt := 103) X (by decide +kernel) (by decide) c23 ?_
          refine g_aload_n (n := 0) X (by decide +kernel) 0 rfl ?_
          refine g_iload_n (n := 2) X (by decide +kernel) 1 rfl ?_
          refine g_aload_n (n := 0) X (by decide +kernel) 0 rfl ?_
          refine g_iload (n := 7) X (by decide +kernel) 5 rfl ?_
          refine g_iconst (n := 2) (x := (2 : Int32)) X (by decide +kernel) (by decide) ?_
          obtain ⟨y25, e24, E⟩ := bp_E E
          refine g_callV1 (st := [.int x2, .ref x0]) X [.int x7, .int (2 : Int32)] (by decide +kernel) ml11_360 px0 rfl rfl (by decide) (Nat.le_of_ble_eq_true rfl) (c11_routeAt hK x0 x7 (2 : Int32) h px0 e24) ?_
          obtain ⟨y27, e26, E⟩ := bp_E E
          refine g_callV1 (st := []) X [.int x2, .int y25] (by decide +kernel) ml11_408 px0 rfl rfl (by decide) (Nat.le_of_ble_eq_true rfl) (c11_isUp hK x0 x2 y25 h px0 e26) ?_
          have hJ : Go Γ (0, 0) 104 [(0, .ref x0), (2, .int x2), (3, .int x3), (5, .int x5), (6, .int x6), (7, .int x7)] [.int (if y27 = 0 then (0 : Int32) else (1 : Int32))] sz K h := by
            exact w11_ways_J104 X hK x0 x2 x3 x5 x6 x7 (if y27 = 0 then (0 : Int32) else (1 : Int32)) h ih px0 E
          clear E
          by_cases c28 : y27 = 0
          · rw [if_pos c28] at hJ
            refine g_if_eq_t (off := 7) (tgt := 103) X (by decide +kernel) (by decide) c28 ?_
            refine g_iconst (n := 0) (x := (0 : Int32)) X (by decide +kernel) (by decide) ?_
            exact hJ
          · rw [if_neg c28] at hJ
            refine g_if_eq_f (off := 7) (tgt := 103) X (by decide +kernel) (by decide) c28 ?_
            refine g_iconst (n := 1) (x := (1 : Int32)) X (by decide +kernel) (by decide) ?_
            refine g_goto (off := 4) (tgt := 104) X (by decide +kernel) (by decide) ?_
            exact hJ
set_option maxHeartbeats 4000000 in
set_option maxRecDepth 20000 in
theorem c11_ways {sp : Sp} {K : Ly} {sz n : Nat} (hK : LyOk K) (o : Nat) (a1 : Int32) (a2 : Int32) (a3 : Int32) (a4 : Int32) (h : Hp) (ho : K o = some (.inl 11)) {v : Int32} {hf : Hp} (E : f11_ways K n o a1 a2 a3 a4 h = some (v, hf)) : Con sp y11_ways prog_13_method_106_code 9 (some (.int)) 5 0 0 [.ref o, .int a1, .int a2, .int a3, .int a4] sz K h (some (.int v)) sz K hf := by
  refine Con.of (by decide) (Nat.le_of_ble_eq_true rfl) (fun Γ X _ => ?_)
  show Go Γ (0, 0) 0 [(0, .ref o), (1, .int a1), (2, .int a2), (3, .int a3), (4, .int a4)] [] sz K h
  unfold f11_ways at E
  refine g_aload_n (n := 0) X (by decide +kernel) 0 rfl ?_
  refine g_iconst (n := 0) (x := (0 : Int32)) X (by decide +kernel) (by decide) ?_
  obtain ⟨h1, eh1, E⟩ := lt_E E
  refine g_putI X (by decide +kernel) fp11_169 ho eh1 ?_
  refine g_aload_n (n := 0) X (by decide +kernel) 0 rfl ?_
  refine g_iload_n (n := 1) X (by decide +kernel) 1 rfl ?_
  obtain ⟨y4, h3, e2, E⟩ := bd_E E
  refine g_callV1 (st := []) X [.int a1] (by decide +kernel) ml11_372 ho rfl rfl (by decide) (Nat.le_of_ble_eq_true rfl) (c11_hasNet hK o a1 h1 ho e2) ?_
  rcases it_E E with ⟨c5, E⟩ | ⟨c5, E⟩
  · refine g_if_eq_t (off := 18) (tgt := 28) X (by decide +kernel) (by decide) c5 ?_
    refine g_iconst (n := -1) (x := (-1 : Int32)) X (by decide +kernel) (by decide) ?_
    obtain ⟨rfl, rfl⟩ := rt_E E
    exact g_ireturn X (by decide +kernel)
  · refine g_if_eq_f (off := 18) (tgt := 28) X (by decide +kernel) (by decide) c5 ?_
    refine g_aload_n (n := 0) X (by decide +kernel) 0 rfl ?_
    refine g_iload_n (n := 2) X (by decide +kernel) 2 rfl ?_
    obtain ⟨y7, e6, E⟩ := bp_E E
    refine g_callV1 (st := []) X [.int a2] (by decide +kernel) ml11_375 ho rfl rfl (by decide) (Nat.le_of_ble_eq_true rfl) (c11_isNode hK o a2 h3 ho e6) ?_
    rcases it_E E with ⟨c8, E⟩ | ⟨c8, E⟩
    · refine g_if_eq_t (off := 10) (tgt := 28) X (by decide +kernel) (by decide) c8 ?_
      refine g_iconst (n := -1) (x := (-1 : Int32)) X (by decide +kernel) (by decide) ?_
      obtain ⟨rfl, rfl⟩ := rt_E E
      exact g_ireturn X (by decide +kernel)
    · refine g_if_eq_f (off := 10) (tgt := 28) X (by decide +kernel) (by decide) c8 ?_
      refine g_iload_n (n := 3) X (by decide +kernel) 3 rfl ?_
      obtain ⟨y10, e9, E⟩ := bp_E E
      refine g_callS1 (st := []) X [.int a3] (by decide +kernel) ml11_573 (by decide) (Nat.le_of_ble_eq_true rfl) (c11_isName hK a3 h3  e9) ?_
      rcases it_E E with ⟨c11, E⟩ | ⟨c11, E⟩
      · refine g_if_ne_f (off := 5) (tgt := 30) X (by decide +kernel) (by decide) (fun z => z c11) ?_
        refine g_iconst (n := -1) (x := (-1 : Int32)) X (by decide +kernel) (by decide) ?_
        obtain ⟨rfl, rfl⟩ := rt_E E
        exact g_ireturn X (by decide +kernel)
      · refine g_if_ne_t (off := 5) (tgt := 30) X (by decide +kernel) (by decide) c11 ?_
        refine g_aload_n (n := 0) X (by decide +kernel) 0 rfl ?_
        refine g_iconst (n := -1) (x := (-1 : Int32)) X (by decide +kernel) (by decide) ?_
        obtain ⟨h13, e12, E⟩ := bp_E E
        refine g_callV0 (st := []) X [.int (-1 : Int32)] (by decide +kernel) ml11_549 ho rfl rfl (by decide) (Nat.le_of_ble_eq_true rfl) (c11_begin hK o (-1 : Int32) h3 ho e12) ?_
        refine g_aload_n (n := 0) X (by decide +kernel) 0 rfl ?_
        refine g_iload_n (n := 2) X (by decide +kernel) 2 rfl ?_
        refine g_iload_n (n := 3) X (by decide +kernel) 3 rfl ?_
        obtain ⟨y15, e14, E⟩ := bp_E E
        refine g_callV1 (st := []) X [.int a2, .int a3] (by decide +kernel) ml11_442 ho rfl rfl (by decide) (Nat.le_of_ble_eq_true rfl) (c11_longestAt hK o a2 a3 h13 ho e14) ?_
        refine s_istore (i := 5) X (by decide +kernel) (by decide) rfl (ls_next (by decide) (Or.inr rfl) (ls_next (by decide) (Or.inr rfl) (ls_next (by decide) (Or.inr rfl) (ls_next (by decide) (Or.inr rfl) (ls_next (by decide) (Or.inr rfl) (ls_ins ls_end)))))) ?_
        refine g_iload (n := 4) X (by decide +kernel) 4 rfl ?_
        rcases it_E E with ⟨c16, E⟩ | ⟨c16, E⟩
        · refine g_if_eq_t (off := 6) (tgt := 51) X (by decide +kernel) (by decide) c16 ?_
          refine g_iconst (n := 0) (x := (0 : Int32)) X (by decide +kernel) (by decide) ?_
          refine s_istore (i := 6) X (by decide +kernel) (by decide) rfl (ls_next (by decide) (Or.inr rfl) (ls_next (by decide) (Or.inr rfl) (ls_next (by decide) (Or.inr rfl) (ls_next (by decide) (Or.inr rfl) (ls_next (by decide) (Or.inr rfl) (ls_next (by decide) (Or.inr rfl) (ls_ins ls_end))))))) ?_
          refine g_iconst (n := 0) (x := (0 : Int32)) X (by decide +kernel) (by decide) ?_
          refine s_istore (i := 7) X (by decide +kernel) (by decide) rfl (ls_next (by decide) (Or.inr rfl) (ls_next (by decide) (Or.inr rfl) (ls_next (by decide) (Or.inr rfl) (ls_next (by decide) (Or.inr rfl) (ls_next (by decide) (Or.inr rfl) (ls_next (by decide) (Or.inr rfl) (ls_next (by decide) (Or.inr rfl) (ls_ins ls_end)))))))) ?_
          refine g_sub [0, 2, 3, 5, 6, 7] rfl ?_
          exact w11_ways_L57 X hK o a2 a3 y15 h13 ho n (0 : Int32) (0 : Int32) E
        · refine g_if_eq_f (off := 6) (tgt := 51) X (by decide +kernel) (by decide) c16 ?_
          refine g_iload (n := 5) X (by decide +kernel) 5 rfl ?_
          obtain ⟨rfl, rfl⟩ := rt_E E
          exact g_ireturn X (by decide +kernel)
-- AskedNamesModel.walks
def f11_walks_J83 (K : Ly) (n : Nat) (r13 : Int32 → Int32 → Int32 → Hp → Option (Int32 × Hp)) (x0 : Nat) (x2 : Int32) (x3 : Int32) (x5 : Int32) (s0 : Nat) (s1 : Int32) (s2 : Int32) (s3 : Int32) (h : Hp) : Option (Int32 × Hp) :=
    bp (f11_nextWay K n s0 s1 s2 s3 h) fun y12 =>
    if y12 = (-1 : Int32) then (
    some ((2 : Int32), h))
    else (
    r13 x3 x5 y12 h)
def f11_walks_L13 (K : Ly) (n : Nat) (x0 : Nat) (x2 : Int32)   : Nat → Int32 → Int32 → Int32 → Hp → Option (Int32 × Hp)
  | 0, _, _, _, _ => none
  | k + 1, x3, x4, x5, h =>
    gd (inb (h.1 x0 79) 8) <|
    lt (sI h (x0 + 49) (h.1 x0 79).toNatClampNeg x5) fun h3 =>
    lt (sI h3 x0 79 ((h3.1 x0 79) + (1 : Int32))) fun h4 =>
    if (f11_has x3 x5) = 0 then (
    lt (x3 ||| ((1 : Int32) <<< (x5 &&& 31))) fun x3_6 =>
    bp (f11_serveFor K n x0 x5 x2 h4) fun y8 =>
    if y8 = (-1 : Int32) then (
    f11_walks_J83 K n (f11_walks_L13 K n x0 x2  k) x0 x2 x3_6 x5 x0 x5 x2 (if x4 = (-1 : Int32) then (0 : Int32) else ((1 : Int32) <<< (x4 &&& 31))) h4)
    else (
    some ((1 : Int32), h4)))
    else (
    some ((3 : Int32), h4))
def f11_walks (K : Ly) (n : Nat) (o : Nat) (a1 : Int32) (a2 : Int32) (h : Hp) : Option (Int32 × Hp) :=
    lt (sI h o 79 (0 : Int32)) fun h1 =>
    f11_walks_L13 K n o a2 n (0 : Int32) (-1 : Int32) a1 h1
set_option maxHeartbeats 4000000 in
set_option maxRecDepth 20000 in
theorem w11_walks_J83 {Γ : CT} {sp : Sp} {K : Ly} {sz n : Nat} {v : Int32} {hf : Hp}  {r13 : Int32 → Int32 → Int32 → Hp → Option (Int32 × Hp)}  (X : Ok Γ sp prog_13_method_107_code Rc11 7 (some (.int)) 5 (some (.int v)) sz K hf) (hK : LyOk K) (x0 : Nat) (x2 : Int32) (x3 : Int32) (x5 : Int32) (s0 : Nat) (s1 : Int32) (s2 : Int32) (s3 : Int32) (h : Hp) (hr13 : ∀ (x3 : Int32) (x4 : Int32) (x5 : Int32) (h : Hp), r13 x3 x4 x5 h = some (v, hf) → Go Γ (0, 0) 13 [(0, .ref x0), (2, .int x2), (3, .int x3), (4, .int x4), (5, .int x5)] [] sz K h) (px0 : K x0 = some (.inl 11)) (ps0 : K s0 = some (.inl 11)) (E : f11_walks_J83 K n r13 x0 x2 x3 x5 s0 s1 s2 s3 h = some (v, hf)) : Go Γ (0, 0) 83 [(0, .ref x0), (2, .int x2), (3, .int x3), (5, .int x5)] [.int s3, .int s2, .int s1, .ref s0] sz K h := by
  unfold f11_walks_J83 at E
  obtain ⟨y12, e11, E⟩ := bp_E E
  refine g_callV1 (st := []) X [.int s1, .int s2, .int s3] (by decide +kernel) ml11_449 ps0 rfl rfl (by decide) (Nat.le_of_ble_eq_true rfl) (c11_nextWay hK s0 s1 s2 s3 h ps0 e11) ?_
  refine s_istore (i := 6) X (by decide +kernel) (by decide) rfl (ls_next (by decide) (Or.inr rfl) (ls_next (by decide) (Or.inr rfl) (ls_next (by decide) (Or.inr rfl) (ls_next (by decide) (Or.inr rfl) (ls_ins ls_end))))) ?_
  refine g_iload (n := 6) X (by decide +kernel) 4 rfl ?_
  refine g_iconst (n := -1) (x := (-1 : Int32)) X (by decide +kernel) (by decide) ?_
  rcases it_E E with ⟨c13, E⟩ | ⟨c13, E⟩
  · refine g_icmp_ne_f (off := 5) (tgt := 96) X (by decide +kernel) (by decide) (fun z => z c13) ?_
    refine g_iconst (n := 2) (x := (2 : Int32)) X (by decide +kernel) (by decide) ?_
    obtain ⟨rfl, rfl⟩ := rt_E E
    exact g_ireturn X (by decide +kernel)
  · refine g_icmp_ne_t (off := 5) (tgt := 96) X (by decide +kernel) (by decide) c13 ?_
    refine g_iload (n := 5) X (by decide +kernel) 3 rfl ?_
    refine s_istore (i := 4) X (by decide +kernel) (by decide) rfl (ls_next (by decide) (Or.inr rfl) (ls_next (by decide) (Or.inr rfl) (ls_next (by decide) (Or.inr rfl) (ls_ins (ls_next (by decide) (Or.inr rfl) (ls_next (by decide) (Or.inr rfl) ls_end)))))) ?_
    refine g_iload (n := 6) X (by decide +kernel) 5 rfl ?_
    refine s_istore (i := 5) X (by decide +kernel) (by decide) rfl (ls_next (by decide) (Or.inr rfl) (ls_next (by decide) (Or.inr rfl) (ls_next (by decide) (Or.inr rfl) (ls_next (by decide) (Or.inr rfl) (ls_here (ls_next (by decide) (Or.inr rfl) ls_end)))))) ?_
    refine g_goto (off := -91) (tgt := 13) X (by decide +kernel) (by decide) ?_
    refine g_sub [0, 1, 2, 3, 4] rfl ?_
    exact hr13 x3 x5 y12 h  E
set_option maxHeartbeats 4000000 in
set_option maxRecDepth 20000 in
theorem w11_walks_L13 {Γ : CT} {sp : Sp} {K : Ly} {sz n : Nat} {v : Int32} {hf : Hp}  (X : Ok Γ sp prog_13_method_107_code Rc11 7 (some (.int)) 5 (some (.int v)) sz K hf) (hK : LyOk K) (x0 : Nat) (x2 : Int32)  (px0 : K x0 = some (.inl 11))  : ∀ (k : Nat) (x3 : Int32) (x4 : Int32) (x5 : Int32) (h : Hp), f11_walks_L13 K n x0 x2  k x3 x4 x5 h = some (v, hf) → Go Γ (0, 0) 13 [(0, .ref x0), (2, .int x2), (3, .int x3), (4, .int x4), (5, .int x5)] [] sz K h := by
  intro k
  induction k with
  | zero => intro x3 x4 x5 h E; cases E
  | succ k ih =>
    intro x3 x4 x5 h E
    unfold f11_walks_L13 at E
    refine g_aload_n (n := 0) X (by decide +kernel) 0 rfl ?_
    refine g_getS X (by decide +kernel) fl11_156 px0 ?_
    refine g_aload_n (n := 0) X (by decide +kernel) 0 rfl ?_
    refine g_getI X (by decide +kernel) fl11_579 px0 ?_
    refine g_iload (n := 5) X (by decide +kernel) 4 rfl ?_
    obtain ⟨c2, E⟩ := gd_E E
    obtain ⟨h3, eh3, E⟩ := lt_E E
    refine g_iast X (by decide +kernel) (ly hK px0 fl11_156 rfl) c2 eh3 ?_
    refine g_aload_n (n := 0) X (by decide +kernel) 0 rfl ?_
    refine g_dup X (by decide +kernel) rfl ?_
    refine g_getI X (by decide +kernel) fl11_579 px0 ?_
    refine g_iconst (n := 1) (x := (1 : Int32)) X (by decide +kernel) (by decide) ?_
    refine g_iadd X (by decide +kernel) ?_
    obtain ⟨h4, eh4, E⟩ := lt_E E
    refine g_putI X (by decide +kernel) fp11_579 px0 eh4 ?_
    refine g_iload_n (n := 3) X (by decide +kernel) 2 rfl ?_
    refine g_iload (n := 5) X (by decide +kernel) 4 rfl ?_
    refine g_callS1 (st := []) X [.int x3, .int x5] (by decide +kernel) ml11_173 (by decide) (Nat.le_of_ble_eq_true rfl) (c11_has hK x3 x5 h4 ) ?_
    rcases it_E E with ⟨c5, E⟩ | ⟨c5, E⟩
    · refine g_if_eq_t (off := 5) (tgt := 45) X (by decide +kernel) (by decide) c5 ?_
      refine g_iload_n (n := 3) X (by decide +kernel) 2 rfl ?_
      refine g_iconst (n := 1) (x := (1 : Int32)) X (by decide +kernel) (by decide) ?_
      refine g_iload (n := 5) X (by decide +kernel) 4 rfl ?_
      refine g_ishl X (by decide +kernel) ?_
      refine g_ior X (by decide +kernel) ?_
      obtain ⟨x3_6, ex3_6, E⟩ := lt_E E
      refine s_istore_n (n := 3) (i := 3) X (by decide +kernel) rfl (by decide) ex3_6 (ls_next (by decide) (Or.inr rfl) (ls_next (by decide) (Or.inr rfl) (ls_here (ls_next (by decide) (Or.inr rfl) (ls_next (by decide) (Or.inr rfl) ls_end))))) ?_
      refine g_aload_n (n := 0) X (by decide +kernel) 0 rfl ?_
      refine g_iload (n := 5) X (by decide +kernel) 4 rfl ?_
      refine g_iload_n (n := 2) X (by decide +kernel) 1 rfl ?_
      obtain ⟨y8, e7, E⟩ := bp_E E
      refine g_callV1 (st := []) X [.int x5, .int x2] (by decide +kernel) ml11_481 px0 rfl rfl (by decide) (Nat.le_of_ble_eq_true rfl) (c11_serveFor hK x0 x5 x2 h4 px0 e7) ?_
      refine g_iconst (n := -1) (x := (-1 : Int32)) X (by decide +kernel) (by decide) ?_
      rcases it_E E with ⟨c9, E⟩ | ⟨c9, E⟩
      · refine g_icmp_eq_t (off := 5) (tgt := 65) X (by decide +kernel) (by decide) c9 ?_
        refine g_aload_n (n := 0) X (by decide +kernel) 0 rfl ?_
        refine g_iload (n := 5) X (by decide +kernel) 4 rfl ?_
        refine g_iload_n (n := 2) X (by decide +kernel) 1 rfl ?_
        refine g_iload (n := 4) X (by decide +kernel) 3 rfl ?_
        refine g_iconst (n := -1) (x := (-1 : Int32)) X (by decide +kernel) (by decide) ?_
        have hJ : Go Γ (0, 0) 83 [(0, .ref x0), (2, .int x2), (3, .int x3_6), (5, .int x5)] [.int (if x4 = (-1 : Int32) then (0 : Int32) else ((1 : Int32) <<< (x4 &&& 31))), .int x2, .int x5, .ref x0] sz K h4 := by
          exact w11_walks_J83 X hK x0 x2 x3_6 x5 x0 x5 x2 (if x4 = (-1 : Int32) then (0 : Int32) else ((1 : Int32) <<< (x4 &&& 31))) h4 ih px0 px0 E
        clear E
        by_cases c10 : x4 = (-1 : Int32)
        · rw [if_pos c10] at hJ
          refine g_icmp_ne_f (off := 7) (tgt := 79) X (by decide +kernel) (by decide) (fun z => z c10) ?_
          refine g_iconst (n := 0) (x := (0 : Int32)) X (by decide +kernel) (by decide) ?_
          refine g_goto (off := 7) (tgt := 83) X (by decide +kernel) (by decide) ?_
          refine g_sub [0, 1, 2, 4] rfl ?_
          exact hJ
        · rw [if_neg c10] at hJ
          refine g_icmp_ne_t (off := 7) (tgt := 79) X (by decide +kernel) (by decide) c10 ?_
          refine g_iconst (n := 1) (x := (1 : Int32)) X (by decide +kernel) (by decide) ?_
          refine g_iload (n := 4) X (by decide +kernel) 3 rfl ?_
          refine g_ishl X (by decide +kernel) ?_
          refine g_sub [0, 1, 2, 4] rfl ?_
          exact hJ
      · refine g_icmp_eq_f (off := 5) (tgt := 65) X (by decide +kernel) (by decide) c9 ?_
        refine g_iconst (n := 1) (x := (1 : Int32)) X (by decide +kernel) (by decide) ?_
        obtain ⟨rfl, rfl⟩ := rt_E E
        exact g_ireturn X (by decide +kernel)
    · refine g_if_eq_f (off := 5) (tgt := 45) X (by decide +kernel) (by decide) c5 ?_
      refine g_iconst (n := 3) (x := (3 : Int32)) X (by decide +kernel) (by decide) ?_
      obtain ⟨rfl, rfl⟩ := rt_E E
      exact g_ireturn X (by decide +kernel)
set_option maxHeartbeats 4000000 in
set_option maxRecDepth 20000 in
theorem c11_walks {sp : Sp} {K : Ly} {sz n : Nat} (hK : LyOk K) (o : Nat) (a1 : Int32) (a2 : Int32) (h : Hp) (ho : K o = some (.inl 11)) {v : Int32} {hf : Hp} (E : f11_walks K n o a1 a2 h = some (v, hf)) : Con sp y11_walks prog_13_method_107_code 7 (some (.int)) 5 0 0 [.ref o, .int a1, .int a2] sz K h (some (.int v)) sz K hf := by
  refine Con.of (by decide) (Nat.le_of_ble_eq_true rfl) (fun Γ X _ => ?_)
  show Go Γ (0, 0) 0 [(0, .ref o), (1, .int a1), (2, .int a2)] [] sz K h
  unfold f11_walks at E
  refine g_aload_n (n := 0) X (by decide +kernel) 0 rfl ?_
  refine g_iconst (n := 0) (x := (0 : Int32)) X (by decide +kernel) (by decide) ?_
  obtain ⟨h1, eh1, E⟩ := lt_E E
  refine g_putI X (by decide +kernel) fp11_579 ho eh1 ?_
  refine g_iconst (n := 0) (x := (0 : Int32)) X (by decide +kernel) (by decide) ?_
  refine s_istore_n (n := 3) (i := 3) X (by decide +kernel) rfl (by decide) rfl (ls_next (by decide) (Or.inr rfl) (ls_next (by decide) (Or.inr rfl) (ls_next (by decide) (Or.inr rfl) (ls_ins ls_end)))) ?_
  refine g_iconst (n := -1) (x := (-1 : Int32)) X (by decide +kernel) (by decide) ?_
  refine s_istore (i := 4) X (by decide +kernel) (by decide) rfl (ls_next (by decide) (Or.inr rfl) (ls_next (by decide) (Or.inr rfl) (ls_next (by decide) (Or.inr rfl) (ls_next (by decide) (Or.inr rfl) (ls_ins ls_end))))) ?_
  refine g_iload_n (n := 1) X (by decide +kernel) 1 rfl ?_
  refine s_istore (i := 5) X (by decide +kernel) (by decide) rfl (ls_next (by decide) (Or.inr rfl) (ls_next (by decide) (Or.inr rfl) (ls_next (by decide) (Or.inr rfl) (ls_next (by decide) (Or.inr rfl) (ls_next (by decide) (Or.inr rfl) (ls_ins ls_end)))))) ?_
  refine g_sub [0, 2, 3, 4, 5] rfl ?_
  exact w11_walks_L13 X hK o a2 ho n (0 : Int32) (-1 : Int32) a1 h1 E
-- AskedNamesModel.trail
def f11_trail_J56 (K : Ly) (n : Nat)  (x0 : Nat) (x4 : Int32) (x5 : Int32) (h : Hp) : Option (Int32 × Hp) :=
    some ((if x4 = (-1 : Int32) then (h.1 x0 79) else x5), h)
def f11_trail (K : Ly) (n : Nat) (o : Nat) (a1 : Int32) (a2 : Int32) (a3 : Int32) (a4 : Int32) (h : Hp) : Option (Int32 × Hp) :=
    lt (sI h o 0 (0 : Int32)) fun h1 =>
    bd (f11_hasNet K n o a1 h1) fun y4 h3 =>
    if y4 = 0 then (
    some ((-1 : Int32), h3))
    else (
    bp (f11_isNode K n o a2 h3) fun y7 =>
    if y7 = 0 then (
    some ((-1 : Int32), h3))
    else (
    bp (f11_isName K n a3 h3) fun y10 =>
    if y10 = 0 then (
    some ((-1 : Int32), h3))
    else (
    bp (f11_begin K n o (-1 : Int32) h3) fun h13 =>
    bd (f11_walks K n o a2 a3 h13) fun y16 h15 =>
    if a4 = (-1 : Int32) then (
    f11_trail_J56 K n o a4 y16 h15)
    else (
    if a4 = (20 : Int32) then (
    f11_trail_J56 K n o a4 y16 h15)
    else (
    if (f11_in a4 (0 : Int32) ((h15.1 o 79) - (1 : Int32))) = 0 then (
    some ((-1 : Int32), h15))
    else (
    gd (inb a4 8) <|
    some ((h15.1 (o + 49) a4.toNatClampNeg), h15)))))))
set_option maxHeartbeats 4000000 in
set_option maxRecDepth 20000 in
theorem w11_trail_J56 {Γ : CT} {sp : Sp} {K : Ly} {sz n : Nat} {v : Int32} {hf : Hp}   (X : Ok Γ sp prog_13_method_108_code Rc11 6 (some (.int)) 6 (some (.int v)) sz K hf) (hK : LyOk K) (x0 : Nat) (x4 : Int32) (x5 : Int32) (h : Hp)  (px0 : K x0 = some (.inl 11)) (E : f11_trail_J56 K n x0 x4 x5 h = some (v, hf)) : Go Γ (0, 0) 56 [(0, .ref x0), (4, .int x4), (5, .int x5)] [] sz K h := by
  unfold f11_trail_J56 at E
  refine g_iload (n := 4) X (by decide +kernel) 1 rfl ?_
  refine g_iconst (n := -1) (x := (-1 : Int32)) X (by decide +kernel) (by decide) ?_
  have hJ : Go Γ (0, 0) 71 [] [.int (if x4 = (-1 : Int32) then (h.1 x0 79) else x5)] sz K h := by
    obtain ⟨rfl, rfl⟩ := rt_E E
    exact g_ireturn X (by decide +kernel)
  clear E
  by_cases c21 : x4 = (-1 : Int32)
  · rw [if_pos c21] at hJ
    refine g_icmp_ne_f (off := 10) (tgt := 69) X (by decide +kernel) (by decide) (fun z => z c21) ?_
    refine g_aload_n (n := 0) X (by decide +kernel) 0 rfl ?_
    refine g_getI X (by decide +kernel) fl11_579 px0 ?_
    refine g_goto (off := 5) (tgt := 71) X (by decide +kernel) (by decide) ?_
    refine g_sub [] rfl ?_
    exact hJ
  · rw [if_neg c21] at hJ
    refine g_icmp_ne_t (off := 10) (tgt := 69) X (by decide +kernel) (by decide) c21 ?_
    refine g_iload (n := 5) X (by decide +kernel) 2 rfl ?_
    refine g_sub [] rfl ?_
    exact hJ
set_option maxHeartbeats 4000000 in
set_option maxRecDepth 20000 in
theorem c11_trail {sp : Sp} {K : Ly} {sz n : Nat} (hK : LyOk K) (o : Nat) (a1 : Int32) (a2 : Int32) (a3 : Int32) (a4 : Int32) (h : Hp) (ho : K o = some (.inl 11)) {v : Int32} {hf : Hp} (E : f11_trail K n o a1 a2 a3 a4 h = some (v, hf)) : Con sp y11_trail prog_13_method_108_code 6 (some (.int)) 6 0 0 [.ref o, .int a1, .int a2, .int a3, .int a4] sz K h (some (.int v)) sz K hf := by
  refine Con.of (by decide) (Nat.le_of_ble_eq_true rfl) (fun Γ X _ => ?_)
  show Go Γ (0, 0) 0 [(0, .ref o), (1, .int a1), (2, .int a2), (3, .int a3), (4, .int a4)] [] sz K h
  unfold f11_trail at E
  refine g_aload_n (n := 0) X (by decide +kernel) 0 rfl ?_
  refine g_iconst (n := 0) (x := (0 : Int32)) X (by decide +kernel) (by decide) ?_
  obtain ⟨h1, eh1, E⟩ := lt_E E
  refine g_putI X (by decide +kernel) fp11_169 ho eh1 ?_
  refine g_aload_n (n := 0) X (by decide +kernel) 0 rfl ?_
  refine g_iload_n (n := 1) X (by decide +kernel) 1 rfl ?_
  obtain ⟨y4, h3, e2, E⟩ := bd_E E
  refine g_callV1 (st := []) X [.int a1] (by decide +kernel) ml11_372 ho rfl rfl (by decide) (Nat.le_of_ble_eq_true rfl) (c11_hasNet hK o a1 h1 ho e2) ?_
  rcases it_E E with ⟨c5, E⟩ | ⟨c5, E⟩
  · refine g_if_eq_t (off := 18) (tgt := 28) X (by decide +kernel) (by decide) c5 ?_
    refine g_iconst (n := -1) (x := (-1 : Int32)) X (by decide +kernel) (by decide) ?_
    obtain ⟨rfl, rfl⟩ := rt_E E
    exact g_ireturn X (by decide +kernel)
  · refine g_if_eq_f (off := 18) (tgt := 28) X (by decide +kernel) (by decide) c5 ?_
    refine g_aload_n (n := 0) X (by decide +kernel) 0 rfl ?_
    refine g_iload_n (n := 2) X (by decide +kernel) 2 rfl ?_
    obtain ⟨y7, e6, E⟩ := bp_E E
    refine g_callV1 (st := []) X [.int a2] (by decide +kernel) ml11_375 ho rfl rfl (by decide) (Nat.le_of_ble_eq_true rfl) (c11_isNode hK o a2 h3 ho e6) ?_
    rcases it_E E with ⟨c8, E⟩ | ⟨c8, E⟩
    · refine g_if_eq_t (off := 10) (tgt := 28) X (by decide +kernel) (by decide) c8 ?_
      refine g_iconst (n := -1) (x := (-1 : Int32)) X (by decide +kernel) (by decide) ?_
      obtain ⟨rfl, rfl⟩ := rt_E E
      exact g_ireturn X (by decide +kernel)
    · refine g_if_eq_f (off := 10) (tgt := 28) X (by decide +kernel) (by decide) c8 ?_
      refine g_iload_n (n := 3) X (by decide +kernel) 3 rfl ?_
      obtain ⟨y10, e9, E⟩ := bp_E E
      refine g_callS1 (st := []) X [.int a3] (by decide +kernel) ml11_573 (by decide) (Nat.le_of_ble_eq_true rfl) (c11_isName hK a3 h3  e9) ?_
      rcases it_E E with ⟨c11, E⟩ | ⟨c11, E⟩
      · refine g_if_ne_f (off := 5) (tgt := 30) X (by decide +kernel) (by decide) (fun z => z c11) ?_
        refine g_iconst (n := -1) (x := (-1 : Int32)) X (by decide +kernel) (by decide) ?_
        obtain ⟨rfl, rfl⟩ := rt_E E
        exact g_ireturn X (by decide +kernel)
      · refine g_if_ne_t (off := 5) (tgt := 30) X (by decide +kernel) (by decide) c11 ?_
        refine g_aload_n (n := 0) X (by decide +kernel) 0 rfl ?_
        refine g_iconst (n := -1) (x := (-1 : Int32)) X (by decide +kernel) (by decide) ?_
        obtain ⟨h13, e12, E⟩ := bp_E E
        refine g_callV0 (st := []) X [.int (-1 : Int32)] (by decide +kernel) ml11_549 ho rfl rfl (by decide) (Nat.le_of_ble_eq_true rfl) (c11_begin hK o (-1 : Int32) h3 ho e12) ?_
        refine g_aload_n (n := 0) X (by decide +kernel) 0 rfl ?_
        refine g_iload_n (n := 2) X (by decide +kernel) 2 rfl ?_
        refine g_iload_n (n := 3) X (by decide +kernel) 3 rfl ?_
        obtain ⟨y16, h15, e14, E⟩ := bd_E E
        refine g_callV1 (st := []) X [.int a2, .int a3] (by decide +kernel) ml11_582 ho rfl rfl (by decide) (Nat.le_of_ble_eq_true rfl) (c11_walks hK o a2 a3 h13 ho e14) ?_
        refine s_istore (i := 5) X (by decide +kernel) (by decide) rfl (ls_next (by decide) (Or.inr rfl) (ls_next (by decide) (Or.inr rfl) (ls_next (by decide) (Or.inr rfl) (ls_next (by decide) (Or.inr rfl) (ls_next (by decide) (Or.inr rfl) (ls_ins ls_end)))))) ?_
        refine g_iload (n := 4) X (by decide +kernel) 4 rfl ?_
        refine g_iconst (n := -1) (x := (-1 : Int32)) X (by decide +kernel) (by decide) ?_
        rcases it_E E with ⟨c17, E⟩ | ⟨c17, E⟩
        · refine g_icmp_eq_t (off := 10) (tgt := 56) X (by decide +kernel) (by decide) c17 ?_
          refine g_sub [0, 4, 5] rfl ?_
          exact w11_trail_J56 X hK o a4 y16 h15 ho E
        · refine g_icmp_eq_f (off := 10) (tgt := 56) X (by decide +kernel) (by decide) c17 ?_
          refine g_iload (n := 4) X (by decide +kernel) 4 rfl ?_
          refine g_bipush (n := 20) (x := (20 : Int32)) X (by decide +kernel) (by decide) ?_
          rcases it_E E with ⟨c18, E⟩ | ⟨c18, E⟩
          · refine g_icmp_ne_f (off := 19) (tgt := 72) X (by decide +kernel) (by decide) (fun z => z c18) ?_
            refine g_sub [0, 4, 5] rfl ?_
            exact w11_trail_J56 X hK o a4 y16 h15 ho E
          · refine g_icmp_ne_t (off := 19) (tgt := 72) X (by decide +kernel) (by decide) c18 ?_
            refine g_iload (n := 4) X (by decide +kernel) 4 rfl ?_
            refine g_iconst (n := 0) (x := (0 : Int32)) X (by decide +kernel) (by decide) ?_
            refine g_aload_n (n := 0) X (by decide +kernel) 0 rfl ?_
            refine g_getI X (by decide +kernel) fl11_579 ho ?_
            refine g_iconst (n := 1) (x := (1 : Int32)) X (by decide +kernel) (by decide) ?_
            refine g_isub X (by decide +kernel) ?_
            refine g_callS1 (st := []) X [.int a4, .int (0 : Int32), .int ((h15.1 o 79) - (1 : Int32))] (by decide +kernel) ml11_181 (by decide) (Nat.le_of_ble_eq_true rfl) (c11_in hK a4 (0 : Int32) ((h15.1 o 79) - (1 : Int32)) h15 ) ?_
            rcases it_E E with ⟨c19, E⟩ | ⟨c19, E⟩
            · refine g_if_eq_t (off := 13) (tgt := 97) X (by decide +kernel) (by decide) c19 ?_
              refine g_iconst (n := -1) (x := (-1 : Int32)) X (by decide +kernel) (by decide) ?_
              obtain ⟨rfl, rfl⟩ := rt_E E
              exact g_ireturn X (by decide +kernel)
            · refine g_if_eq_f (off := 13) (tgt := 97) X (by decide +kernel) (by decide) c19 ?_
              refine g_aload_n (n := 0) X (by decide +kernel) 0 rfl ?_
              refine g_getS X (by decide +kernel) fl11_156 ho ?_
              refine g_iload (n := 4) X (by decide +kernel) 4 rfl ?_
              obtain ⟨c20, E⟩ := gd_E E
              refine g_iald X (by decide +kernel) (ly hK ho fl11_156 rfl) c20 ?_
              refine g_goto (off := 4) (tgt := 98) X (by decide +kernel) (by decide) ?_
              obtain ⟨rfl, rfl⟩ := rt_E E
              exact g_ireturn X (by decide +kernel)
-- AskedNamesModel.far
def f11_far_J67 (K : Ly) (n : Nat) (r34 : Int32 → Hp → Option (Int32 × Hp)) (x0 : Nat) (x2 : Int32) (x3 : Int32) (x4 : Int32) (s0 : Nat) (s1 : Int32) (s2 : Int32) (h : Hp) : Option (Int32 × Hp) :=
    gd (inb s1 36) <|
    lt (sI h s0 s1.toNatClampNeg s2) fun h35 =>
    lt (x4 + (1 : Int32)) fun x4_36 =>
    r34 x4_36 h35
def f11_far_L165 (K : Ly) (n : Nat) (x0 : Nat) (x2 : Int32) (x3 : Int32) (x4 : Int32)  (r155 : Int32 → Hp → Option (Int32 × Hp)) : Nat → Int32 → Hp → Option (Int32 × Hp)
  | 0, _, _ => none
  | k + 1, x5, h =>
    if (36 : Int32) ≤ x5 then (
    lt (x4 + (1 : Int32)) fun x4_42 =>
    r155 x4_42 h)
    else (
    gd (inb (((6 : Int32) * (x5 / (6 : Int32))) + x4) 36) <|
    gd (inb (((6 : Int32) * x4) + (x5 - x5 / (6 : Int32) * (6 : Int32))) 36) <|
    lt ((h.1 (x0 + 50) (((6 : Int32) * (x5 / (6 : Int32))) + x4).toNatClampNeg) + (h.1 (x0 + 50) (((6 : Int32) * x4) + (x5 - x5 / (6 : Int32) * (6 : Int32))).toNatClampNeg)) fun x6_45 =>
    gd (inb x5 36) <|
    gd (inb x5 36) <|
    lt (sI h (x0 + 50) x5.toNatClampNeg (f11_lesser (h.1 (x0 + 50) x5.toNatClampNeg) x6_45)) fun h48 =>
    lt (x5 + (1 : Int32)) fun x5_49 =>
    f11_far_L165 K n x0 x2 x3 x4 r155 k x5_49 h48)
def f11_far_L155 (K : Ly) (n : Nat) (x0 : Nat) (x2 : Int32) (x3 : Int32)   : Nat → Int32 → Hp → Option (Int32 × Hp)
  | 0, _, _ => none
  | k + 1, x4, h =>
    if (6 : Int32) ≤ x4 then (
    gd (inb (((6 : Int32) * x2) + x3) 36) <|
    lt (h.1 (x0 + 50) (((6 : Int32) * x2) + x3).toNatClampNeg) fun x4_39 =>
    some ((if (1000000 : Int32) ≤ x4_39 then (-1 : Int32) else x4_39), h))
    else (
    f11_far_L165 K n x0 x2 x3 x4 (f11_far_L155 K n x0 x2 x3  k) n (0 : Int32) h)
def f11_far_L77 (K : Ly) (n : Nat) (x0 : Nat) (x2 : Int32) (x3 : Int32)   : Nat → Int32 → Hp → Option (Int32 × Hp)
  | 0, _, _ => none
  | k + 1, x4, h =>
    bp (f11_links K n x0 h) fun y15 =>
    if y15 ≤ x4 then (
    f11_far_L155 K n x0 x2 x3 n (0 : Int32) h)
    else (
    bp (f11_linkAt K n x0 x4 (0 : Int32) h) fun y18 =>
    bp (f11_linkAt K n x0 x4 (1 : Int32) h) fun y20 =>
    bp (f11_linkAt K n x0 x4 (2 : Int32) h) fun y22 =>
    gd (inb (((6 : Int32) * y18) + y20) 36) <|
    lt (sI h (x0 + 50) (((6 : Int32) * y18) + y20).toNatClampNeg y22) fun h24 =>
    bp (f11_linkAt K n x0 x4 (1 : Int32) h24) fun y26 =>
    bp (f11_linkAt K n x0 x4 (0 : Int32) h24) fun y28 =>
    bp (f11_linkAt K n x0 x4 (2 : Int32) h24) fun y30 =>
    gd (inb (((6 : Int32) * y26) + y28) 36) <|
    lt (sI h24 (x0 + 50) (((6 : Int32) * y26) + y28).toNatClampNeg y30) fun h32 =>
    lt (x4 + (1 : Int32)) fun x4_33 =>
    f11_far_L77 K n x0 x2 x3  k x4_33 h32)
def f11_far_L34 (K : Ly) (n : Nat) (x0 : Nat) (x2 : Int32) (x3 : Int32)   : Nat → Int32 → Hp → Option (Int32 × Hp)
  | 0, _, _ => none
  | k + 1, x4, h =>
    if (36 : Int32) ≤ x4 then (
    f11_far_L77 K n x0 x2 x3 n (0 : Int32) h)
    else (
    f11_far_J67 K n (f11_far_L34 K n x0 x2 x3  k) x0 x2 x3 x4 (x0 + 50) x4 (if (x4 / (6 : Int32)) = (x4 - x4 / (6 : Int32) * (6 : Int32)) then (0 : Int32) else (1000000 : Int32)) h)
def f11_far (K : Ly) (n : Nat) (o : Nat) (a1 : Int32) (a2 : Int32) (a3 : Int32) (h : Hp) : Option (Int32 × Hp) :=
    lt (sI h o 0 (0 : Int32)) fun h1 =>
    bd (f11_hasNet K n o a1 h1) fun y4 h3 =>
    if y4 = 0 then (
    some ((-1 : Int32), h3))
    else (
    bp (f11_isNode K n o a2 h3) fun y7 =>
    if y7 = 0 then (
    some ((-1 : Int32), h3))
    else (
    bp (f11_isNode K n o a3 h3) fun y10 =>
    if y10 = 0 then (
    some ((-1 : Int32), h3))
    else (
    f11_far_L34 K n o a2 a3 n (0 : Int32) h3)))
set_option maxHeartbeats 4000000 in
set_option maxRecDepth 20000 in
theorem w11_far_J67 {Γ : CT} {sp : Sp} {K : Ly} {sz n : Nat} {v : Int32} {hf : Hp}  {r34 : Int32 → Hp → Option (Int32 × Hp)}  (X : Ok Γ sp prog_13_method_109_code Rc11 7 (some (.int)) 4 (some (.int v)) sz K hf) (hK : LyOk K) (x0 : Nat) (x2 : Int32) (x3 : Int32) (x4 : Int32) (s0 : Nat) (s1 : Int32) (s2 : Int32) (h : Hp) (hr34 : ∀ (x4 : Int32) (h : Hp), r34 x4 h = some (v, hf) → Go Γ (0, 0) 34 [(0, .ref x0), (2, .int x2), (3, .int x3), (4, .int x4)] [] sz K h) (px0 : K x0 = some (.inl 11)) (ps0 : K s0 = some (.inr (0, 36))) (E : f11_far_J67 K n r34 x0 x2 x3 x4 s0 s1 s2 h = some (v, hf)) : Go Γ (0, 0) 67 [(0, .ref x0), (2, .int x2), (3, .int x3), (4, .int x4)] [.int s2, .int s1, .ref s0] sz K h := by
  unfold f11_far_J67 at E
  obtain ⟨c34, E⟩ := gd_E E
  obtain ⟨h35, eh35, E⟩ := lt_E E
  refine g_iast X (by decide +kernel) ps0 c34 eh35 ?_
  obtain ⟨x4_36, ex4_36, E⟩ := lt_E E
  refine s_iinc (i := 4) (n := 1) (y := x4_36) X (by decide +kernel) 3 rfl (by decide) ex4_36 (ls_next (by decide) (Or.inr rfl) (ls_next (by decide) (Or.inr rfl) (ls_next (by decide) (Or.inr rfl) (ls_here ls_end)))) ?_
  refine g_goto (off := -37) (tgt := 34) X (by decide +kernel) (by decide) ?_
  exact hr34 x4_36 h35  E
set_option maxHeartbeats 4000000 in
set_option maxRecDepth 20000 in
theorem w11_far_L165 {Γ : CT} {sp : Sp} {K : Ly} {sz n : Nat} {v : Int32} {hf : Hp}  (X : Ok Γ sp prog_13_method_109_code Rc11 7 (some (.int)) 4 (some (.int v)) sz K hf) (hK : LyOk K) (x0 : Nat) (x2 : Int32) (x3 : Int32) (x4 : Int32)  {r155 : Int32 → Hp → Option (Int32 × Hp)} (px0 : K x0 = some (.inl 11)) (hr155 : ∀ (x4 : Int32) (h : Hp), r155 x4 h = some (v, hf) → Go Γ (0, 0) 155 [(0, .ref x0), (2, .int x2), (3, .int x3), (4, .int x4)] [] sz K h) : ∀ (k : Nat) (x5 : Int32) (h : Hp), f11_far_L165 K n x0 x2 x3 x4 r155 k x5 h = some (v, hf) → Go Γ (0, 0) 165 [(0, .ref x0), (2, .int x2), (3, .int x3), (4, .int x4), (5, .int x5)] [] sz K h := by
  intro k
  induction k with
  | zero => intro x5 h E; cases E
  | succ k ih =>
    intro x5 h E
    unfold f11_far_L165 at E
    refine g_iload (n := 5) X (by decide +kernel) 4 rfl ?_
    refine g_bipush (n := 36) (x := (36 : Int32)) X (by decide +kernel) (by decide) ?_
    rcases it_E E with ⟨c41, E⟩ | ⟨c41, E⟩
    · refine g_icmp_ge_t (off := 63) (tgt := 232) X (by decide +kernel) (by decide) c41 ?_
      obtain ⟨x4_42, ex4_42, E⟩ := lt_E E
      refine s_iinc (i := 4) (n := 1) (y := x4_42) X (by decide +kernel) 3 rfl (by decide) ex4_42 (ls_next (by decide) (Or.inr rfl) (ls_next (by decide) (Or.inr rfl) (ls_next (by decide) (Or.inr rfl) (ls_here (ls_next (by decide) (Or.inr rfl) ls_end))))) ?_
      refine g_goto (off := -80) (tgt := 155) X (by decide +kernel) (by decide) ?_
      refine g_sub [0, 1, 2, 3] rfl ?_
      exact hr155 x4_42 h  E
    · refine g_icmp_ge_f (off := 63) (tgt := 232) X (by decide +kernel) (by decide) c41 ?_
      refine g_aload_n (n := 0) X (by decide +kernel) 0 rfl ?_
      refine g_getS X (by decide +kernel) fl11_159 px0 ?_
      refine g_bipush (n := 6) (x := (6 : Int32)) X (by decide +kernel) (by decide) ?_
      refine g_iload (n := 5) X (by decide +kernel) 4 rfl ?_
      refine g_bipush (n := 6) (x := (6 : Int32)) X (by decide +kernel) (by decide) ?_
      refine g_idiv X (by decide +kernel) (by decide) ?_
      refine g_imul X (by decide +kernel) ?_
      refine g_iload (n := 4) X (by decide +kernel) 3 rfl ?_
      refine g_iadd X (by decide +kernel) ?_
      obtain ⟨c43, E⟩ := gd_E E
      refine g_iald X (by decide +kernel) (ly hK px0 fl11_159 rfl) c43 ?_
      refine g_aload_n (n := 0) X (by decide +kernel) 0 rfl ?_
      refine g_getS X (by decide +kernel) fl11_159 px0 ?_
      refine g_bipush (n := 6) (x := (6 : Int32)) X (by decide +kernel) (by decide) ?_
      refine g_iload (n := 4) X (by decide +kernel) 3 rfl ?_
      refine g_imul X (by decide +kernel) ?_
      refine g_iload (n := 5) X (by decide +kernel) 4 rfl ?_
      refine g_bipush (n := 6) (x := (6 : Int32)) X (by decide +kernel) (by decide) ?_
      refine g_irem X (by decide +kernel) (by decide) ?_
      refine g_iadd X (by decide +kernel) ?_
      obtain ⟨c44, E⟩ := gd_E E
      refine g_iald X (by decide +kernel) (ly hK px0 fl11_159 rfl) c44 ?_
      refine g_iadd X (by decide +kernel) ?_
      obtain ⟨x6_45, ex6_45, E⟩ := lt_E E
      refine s_istore (i := 6) X (by decide +kernel) (by decide) ex6_45 (ls_next (by decide) (Or.inr rfl) (ls_next (by decide) (Or.inr rfl) (ls_next (by decide) (Or.inr rfl) (ls_next (by decide) (Or.inr rfl) (ls_next (by decide) (Or.inr rfl) (ls_ins ls_end)))))) ?_
      refine g_aload_n (n := 0) X (by decide +kernel) 0 rfl ?_
      refine g_getS X (by decide +kernel) fl11_159 px0 ?_
      refine g_iload (n := 5) X (by decide +kernel) 4 rfl ?_
      refine g_aload_n (n := 0) X (by decide +kernel) 0 rfl ?_
      refine g_getS X (by decide +kernel) fl11_159 px0 ?_
      refine g_iload (n := 5) X (by decide +kernel) 4 rfl ?_
      obtain ⟨c46, E⟩ := gd_E E
      refine g_iald X (by decide +kernel) (ly hK px0 fl11_159 rfl) c46 ?_
      refine g_iload (n := 6) X (by decide +kernel) 5 rfl ?_
      refine g_callS1 (st := [.int x5, .ref (x0 + 50)]) X [.int (h.1 (x0 + 50) x5.toNatClampNeg), .int x6_45] (by decide +kernel) ml11_253 (by decide) (Nat.le_of_ble_eq_true rfl) (c11_lesser hK (h.1 (x0 + 50) x5.toNatClampNeg) x6_45 h ) ?_
      obtain ⟨c47, E⟩ := gd_E E
      obtain ⟨h48, eh48, E⟩ := lt_E E
      refine g_iast X (by decide +kernel) (ly hK px0 fl11_159 rfl) c47 eh48 ?_
      obtain ⟨x5_49, ex5_49, E⟩ := lt_E E
      refine s_iinc (i := 5) (n := 1) (y := x5_49) X (by decide +kernel) 4 rfl (by decide) ex5_49 (ls_next (by decide) (Or.inr rfl) (ls_next (by decide) (Or.inr rfl) (ls_next (by decide) (Or.inr rfl) (ls_next (by decide) (Or.inr rfl) (ls_here (ls_next (by decide) (Or.inr rfl) ls_end)))))) ?_
      refine g_goto (off := -64) (tgt := 165) X (by decide +kernel) (by decide) ?_
      refine g_sub [0, 1, 2, 3, 4] rfl ?_
      exact ih x5_49 h48  E
set_option maxHeartbeats 4000000 in
set_option maxRecDepth 20000 in
theorem w11_far_L155 {Γ : CT} {sp : Sp} {K : Ly} {sz n : Nat} {v : Int32} {hf : Hp}  (X : Ok Γ sp prog_13_method_109_code Rc11 7 (some (.int)) 4 (some (.int v)) sz K hf) (hK : LyOk K) (x0 : Nat) (x2 : Int32) (x3 : Int32)  (px0 : K x0 = some (.inl 11))  : ∀ (k : Nat) (x4 : Int32) (h : Hp), f11_far_L155 K n x0 x2 x3  k x4 h = some (v, hf) → Go Γ (0, 0) 155 [(0, .ref x0), (2, .int x2), (3, .int x3), (4, .int x4)] [] sz K h := by
  intro k
  induction k with
  | zero => intro x4 h E; cases E
  | succ k ih =>
    intro x4 h E
    unfold f11_far_L155 at E
    refine g_iload (n := 4) X (by decide +kernel) 3 rfl ?_
    refine g_bipush (n := 6) (x := (6 : Int32)) X (by decide +kernel) (by decide) ?_
    rcases it_E E with ⟨c37, E⟩ | ⟨c37, E⟩
    · refine g_icmp_ge_t (off := 79) (tgt := 238) X (by decide +kernel) (by decide) c37 ?_
      refine g_aload_n (n := 0) X (by decide +kernel) 0 rfl ?_
      refine g_getS X (by decide +kernel) fl11_159 px0 ?_
      refine g_bipush (n := 6) (x := (6 : Int32)) X (by decide +kernel) (by decide) ?_
      refine g_iload_n (n := 2) X (by decide +kernel) 1 rfl ?_
      refine g_imul X (by decide +kernel) ?_
      refine g_iload_n (n := 3) X (by decide +kernel) 2 rfl ?_
      refine g_iadd X (by decide +kernel) ?_
      obtain ⟨c38, E⟩ := gd_E E
      refine g_iald X (by decide +kernel) (ly hK px0 fl11_159 rfl) c38 ?_
      obtain ⟨x4_39, ex4_39, E⟩ := lt_E E
      refine s_istore (i := 4) X (by decide +kernel) (by decide) ex4_39 (ls_next (by decide) (Or.inr rfl) (ls_next (by decide) (Or.inr rfl) (ls_next (by decide) (Or.inr rfl) (ls_here ls_end)))) ?_
      refine g_iload (n := 4) X (by decide +kernel) 3 rfl ?_
      refine g_ldc_w (index := 445) (x := (1000000 : Int32)) X (by decide +kernel) (in_c8 47 rfl rfl) ?_
      have hJ : Go Γ (0, 0) 265 [] [.int (if (1000000 : Int32) ≤ x4_39 then (-1 : Int32) else x4_39)] sz K h := by
        obtain ⟨rfl, rfl⟩ := rt_E E
        exact g_ireturn X (by decide +kernel)
      clear E
      by_cases c40 : (1000000 : Int32) ≤ x4_39
      · rw [if_pos c40] at hJ
        refine g_icmp_ge_t (off := 8) (tgt := 264) X (by decide +kernel) (by decide) c40 ?_
        refine g_iconst (n := -1) (x := (-1 : Int32)) X (by decide +kernel) (by decide) ?_
        refine g_sub [] rfl ?_
        exact hJ
      · rw [if_neg c40] at hJ
        refine g_icmp_ge_f (off := 8) (tgt := 264) X (by decide +kernel) (by decide) c40 ?_
        refine g_iload (n := 4) X (by decide +kernel) 3 rfl ?_
        refine g_goto (off := 4) (tgt := 265) X (by decide +kernel) (by decide) ?_
        refine g_sub [] rfl ?_
        exact hJ
    · refine g_icmp_ge_f (off := 79) (tgt := 238) X (by decide +kernel) (by decide) c37 ?_
      refine g_iconst (n := 0) (x := (0 : Int32)) X (by decide +kernel) (by decide) ?_
      refine s_istore (i := 5) X (by decide +kernel) (by decide) rfl (ls_next (by decide) (Or.inr rfl) (ls_next (by decide) (Or.inr rfl) (ls_next (by decide) (Or.inr rfl) (ls_next (by decide) (Or.inr rfl) (ls_ins ls_end))))) ?_
      exact w11_far_L165 X hK x0 x2 x3 x4 px0 ih n (0 : Int32) h E
set_option maxHeartbeats 4000000 in
set_option maxRecDepth 20000 in
theorem w11_far_L77 {Γ : CT} {sp : Sp} {K : Ly} {sz n : Nat} {v : Int32} {hf : Hp}  (X : Ok Γ sp prog_13_method_109_code Rc11 7 (some (.int)) 4 (some (.int v)) sz K hf) (hK : LyOk K) (x0 : Nat) (x2 : Int32) (x3 : Int32)  (px0 : K x0 = some (.inl 11))  : ∀ (k : Nat) (x4 : Int32) (h : Hp), f11_far_L77 K n x0 x2 x3  k x4 h = some (v, hf) → Go Γ (0, 0) 77 [(0, .ref x0), (2, .int x2), (3, .int x3), (4, .int x4)] [] sz K h := by
  intro k
  induction k with
  | zero => intro x4 h E; cases E
  | succ k ih =>
    intro x4 h E
    unfold f11_far_L77 at E
    refine g_iload (n := 4) X (by decide +kernel) 3 rfl ?_
    refine g_aload_n (n := 0) X (by decide +kernel) 0 rfl ?_
    obtain ⟨y15, e14, E⟩ := bp_E E
    refine g_callV1 (st := [.int x4]) X [] (by decide +kernel) ml11_345 px0 rfl rfl (by decide) (Nat.le_of_ble_eq_true rfl) (c11_links hK x0 h px0 e14) ?_
    rcases it_E E with ⟨c16, E⟩ | ⟨c16, E⟩
    · refine g_icmp_ge_t (off := 69) (tgt := 152) X (by decide +kernel) (by decide) c16 ?_
      refine g_iconst (n := 0) (x := (0 : Int32)) X (by decide +kernel) (by decide) ?_
      refine s_istore (i := 4) X (by decide +kernel) (by decide) rfl (ls_next (by decide) (Or.inr rfl) (ls_next (by decide) (Or.inr rfl) (ls_next (by decide) (Or.inr rfl) (ls_here ls_end)))) ?_
      exact w11_far_L155 X hK x0 x2 x3 px0 n (0 : Int32) h E
    · refine g_icmp_ge_f (off := 69) (tgt := 152) X (by decide +kernel) (by decide) c16 ?_
      refine g_aload_n (n := 0) X (by decide +kernel) 0 rfl ?_
      refine g_getS X (by decide +kernel) fl11_159 px0 ?_
      refine g_bipush (n := 6) (x := (6 : Int32)) X (by decide +kernel) (by decide) ?_
      refine g_aload_n (n := 0) X (by decide +kernel) 0 rfl ?_
      refine g_iload (n := 4) X (by decide +kernel) 3 rfl ?_
      refine g_iconst (n := 0) (x := (0 : Int32)) X (by decide +kernel) (by decide) ?_
      obtain ⟨y18, e17, E⟩ := bp_E E
      refine g_callV1 (st := [.int (6 : Int32), .ref (x0 + 50)]) X [.int x4, .int (0 : Int32)] (by decide +kernel) ml11_348 px0 rfl rfl (by decide) (Nat.le_of_ble_eq_true rfl) (c11_linkAt hK x0 x4 (0 : Int32) h px0 e17) ?_
      refine g_imul X (by decide +kernel) ?_
      refine g_aload_n (n := 0) X (by decide +kernel) 0 rfl ?_
      refine g_iload (n := 4) X (by decide +kernel) 3 rfl ?_
      refine g_iconst (n := 1) (x := (1 : Int32)) X (by decide +kernel) (by decide) ?_
      obtain ⟨y20, e19, E⟩ := bp_E E
      refine g_callV1 (st := [.int ((6 : Int32) * y18), .ref (x0 + 50)]) X [.int x4, .int (1 : Int32)] (by decide +kernel) ml11_348 px0 rfl rfl (by decide) (Nat.le_of_ble_eq_true rfl) (c11_linkAt hK x0 x4 (1 : Int32) h px0 e19) ?_
      refine g_iadd X (by decide +kernel) ?_
      refine g_aload_n (n := 0) X (by decide +kernel) 0 rfl ?_
      refine g_iload (n := 4) X (by decide +kernel) 3 rfl ?_
      refine g_iconst (n := 2) (x := (2 : Int32)) X (by decide +kernel) (by decide) ?_
      obtain ⟨y22, e21, E⟩ := bp_E E
      refine g_callV1 (st := [.int (((6 : Int32) * y18) + y20), .ref (x0 + 50)]) X [.int x4, .int (2 : Int32)] (by decide +kernel) ml11_348 px0 rfl rfl (by decide) (Nat.le_of_ble_eq_true rfl) (c11_linkAt hK x0 x4 (2 : Int32) h px0 e21) ?_
      obtain ⟨c23, E⟩ := gd_E E
      obtain ⟨h24, eh24, E⟩ := lt_E E
      refine g_iast X (by decide +kernel) (ly hK px0 fl11_159 rfl) c23 eh24 ?_
      refine g_aload_n (n := 0) X (by decide +kernel) 0 rfl ?_
      refine g_getS X (by decide +kernel) fl11_159 px0 ?_
      refine g_bipush (n := 6) (x := (6 : Int32)) X (by decide +kernel) (by decide) ?_
      refine g_aload_n (n := 0) X (by decide +kernel) 0 rfl ?_
      refine g_iload (n := 4) X (by decide +kernel) 3 rfl ?_
      refine g_iconst (n := 1) (x := (1 : Int32)) X (by decide +kernel) (by decide) ?_
      obtain ⟨y26, e25, E⟩ := bp_E E
      refine g_callV1 (st := [.int (6 : Int32), .ref (x0 + 50)]) X [.int x4, .int (1 : Int32)] (by decide +kernel) ml11_348 px0 rfl rfl (by decide) (Nat.le_of_ble_eq_true rfl) (c11_linkAt hK x0 x4 (1 : Int32) h24 px0 e25) ?_
      refine g_imul X (by decide +kernel) ?_
      refine g_aload_n (n := 0) X (by decide +kernel) 0 rfl ?_
      refine g_iload (n := 4) X (by decide +kernel) 3 rfl ?_
      refine g_iconst (n := 0) (x := (0 : Int32)) X (by decide +kernel) (by decide) ?_
      obtain ⟨y28, e27, E⟩ := bp_E E
      refine g_callV1 (st := [.int ((6 : Int32) * y26), .ref (x0 + 50)]) X [.int x4, .int (0 : Int32)] (by decide +kernel) ml11_348 px0 rfl rfl (by decide) (Nat.le_of_ble_eq_true rfl) (c11_linkAt hK x0 x4 (0 : Int32) h24 px0 e27) ?_
      refine g_iadd X (by decide +kernel) ?_
      refine g_aload_n (n := 0) X (by decide +kernel) 0 rfl ?_
      refine g_iload (n := 4) X (by decide +kernel) 3 rfl ?_
      refine g_iconst (n := 2) (x := (2 : Int32)) X (by decide +kernel) (by decide) ?_
      obtain ⟨y30, e29, E⟩ := bp_E E
      refine g_callV1 (st := [.int (((6 : Int32) * y26) + y28), .ref (x0 + 50)]) X [.int x4, .int (2 : Int32)] (by decide +kernel) ml11_348 px0 rfl rfl (by decide) (Nat.le_of_ble_eq_true rfl) (c11_linkAt hK x0 x4 (2 : Int32) h24 px0 e29) ?_
      obtain ⟨c31, E⟩ := gd_E E
      obtain ⟨h32, eh32, E⟩ := lt_E E
      refine g_iast X (by decide +kernel) (ly hK px0 fl11_159 rfl) c31 eh32 ?_
      obtain ⟨x4_33, ex4_33, E⟩ := lt_E E
      refine s_iinc (i := 4) (n := 1) (y := x4_33) X (by decide +kernel) 3 rfl (by decide) ex4_33 (ls_next (by decide) (Or.inr rfl) (ls_next (by decide) (Or.inr rfl) (ls_next (by decide) (Or.inr rfl) (ls_here ls_end)))) ?_
      refine g_goto (off := -72) (tgt := 77) X (by decide +kernel) (by decide) ?_
      exact ih x4_33 h32  E
set_option maxHeartbeats 4000000 in
set_option maxRecDepth 20000 in
theorem w11_far_L34 {Γ : CT} {sp : Sp} {K : Ly} {sz n : Nat} {v : Int32} {hf : Hp}  (X : Ok Γ sp prog_13_method_109_code Rc11 7 (some (.int)) 4 (some (.int v)) sz K hf) (hK : LyOk K) (x0 : Nat) (x2 : Int32) (x3 : Int32)  (px0 : K x0 = some (.inl 11))  : ∀ (k : Nat) (x4 : Int32) (h : Hp), f11_far_L34 K n x0 x2 x3  k x4 h = some (v, hf) → Go Γ (0, 0) 34 [(0, .ref x0), (2, .int x2), (3, .int x3), (4, .int x4)] [] sz K h := by
  intro k
  induction k with
  | zero => intro x4 h E; cases E
  | succ k ih =>
    intro x4 h E
    unfold f11_far_L34 at E
    refine g_iload (n := 4) X (by decide +kernel) 3 rfl ?_
    refine g_bipush (n := 36) (x := (36 : Int32)) X (by decide +kernel) (by decide) ?_
    rcases it_E E with ⟨c12, E⟩ | ⟨c12, E⟩
    · refine g_icmp_ge_t (off := 36) (tgt := 74) X (by decide +kernel) (by decide) c12 ?_
      refine g_iconst (n := 0) (x := (0 : Int32)) X (by decide +kernel) (by decide) ?_
      refine s_istore (i := 4) X (by decide +kernel) (by decide) rfl (ls_next (by decide) (Or.inr rfl) (ls_next (by decide) (Or.inr rfl) (ls_next (by decide) (Or.inr rfl) (ls_here ls_end)))) ?_
      exact w11_far_L77 X hK x0 x2 x3 px0 n (0 : Int32) h E
    · refine g_icmp_ge_f (off := 36) (tgt := 74) X (by decide +kernel) (by decide) c12 ?_
      refine g_aload_n (n := 0) X (by decide +kernel) 0 rfl ?_
      refine g_getS X (by decide +kernel) fl11_159 px0 ?_
      refine g_iload (n := 4) X (by decide +kernel) 3 rfl ?_
      refine g_iload (n := 4) X (by decide +kernel) 3 rfl ?_
      refine g_bipush (n := 6) (x := (6 : Int32)) X (by decide +kernel) (by decide) ?_
      refine g_idiv X (by decide +kernel) (by decide) ?_
      refine g_iload (n := 4) X (by decide +kernel) 3 rfl ?_
      refine g_bipush (n := 6) (x := (6 : Int32)) X (by decide +kernel) (by decide) ?_
      refine g_irem X (by decide +kernel) (by decide) ?_
      have hJ : Go Γ (0, 0) 67 [(0, .ref x0), (2, .int x2), (3, .int x3), (4, .int x4)] [.int (if (x4 / (6 : Int32)) = (x4 - x4 / (6 : Int32) * (6 : Int32)) then (0 : Int32) else (1000000 : Int32)), .int x4, .ref (x0 + 50)] sz K h := by
        exact w11_far_J67 X hK x0 x2 x3 x4 (x0 + 50) x4 (if (x4 / (6 : Int32)) = (x4 - x4 / (6 : Int32) * (6 : Int32)) then (0 : Int32) else (1000000 : Int32)) h ih px0 (ly hK px0 fl11_159 rfl) E
      clear E
      by_cases c13 : (x4 / (6 : Int32)) = (x4 - x4 / (6 : Int32) * (6 : Int32))
      · rw [if_pos c13] at hJ
        refine g_icmp_ne_f (off := 7) (tgt := 64) X (by decide +kernel) (by decide) (fun z => z c13) ?_
        refine g_iconst (n := 0) (x := (0 : Int32)) X (by decide +kernel) (by decide) ?_
        refine g_goto (off := 6) (tgt := 67) X (by decide +kernel) (by decide) ?_
        exact hJ
      · rw [if_neg c13] at hJ
        refine g_icmp_ne_t (off := 7) (tgt := 64) X (by decide +kernel) (by decide) c13 ?_
        refine g_ldc_w (index := 445) (x := (1000000 : Int32)) X (by decide +kernel) (in_c8 47 rfl rfl) ?_
        exact hJ
set_option maxHeartbeats 4000000 in
set_option maxRecDepth 20000 in
theorem c11_far {sp : Sp} {K : Ly} {sz n : Nat} (hK : LyOk K) (o : Nat) (a1 : Int32) (a2 : Int32) (a3 : Int32) (h : Hp) (ho : K o = some (.inl 11)) {v : Int32} {hf : Hp} (E : f11_far K n o a1 a2 a3 h = some (v, hf)) : Con sp y11_far prog_13_method_109_code 7 (some (.int)) 4 0 0 [.ref o, .int a1, .int a2, .int a3] sz K h (some (.int v)) sz K hf := by
  refine Con.of (by decide) (Nat.le_of_ble_eq_true rfl) (fun Γ X _ => ?_)
  show Go Γ (0, 0) 0 [(0, .ref o), (1, .int a1), (2, .int a2), (3, .int a3)] [] sz K h
  unfold f11_far at E
  refine g_aload_n (n := 0) X (by decide +kernel) 0 rfl ?_
  refine g_iconst (n := 0) (x := (0 : Int32)) X (by decide +kernel) (by decide) ?_
  obtain ⟨h1, eh1, E⟩ := lt_E E
  refine g_putI X (by decide +kernel) fp11_169 ho eh1 ?_
  refine g_aload_n (n := 0) X (by decide +kernel) 0 rfl ?_
  refine g_iload_n (n := 1) X (by decide +kernel) 1 rfl ?_
  obtain ⟨y4, h3, e2, E⟩ := bd_E E
  refine g_callV1 (st := []) X [.int a1] (by decide +kernel) ml11_372 ho rfl rfl (by decide) (Nat.le_of_ble_eq_true rfl) (c11_hasNet hK o a1 h1 ho e2) ?_
  rcases it_E E with ⟨c5, E⟩ | ⟨c5, E⟩
  · refine g_if_eq_t (off := 19) (tgt := 29) X (by decide +kernel) (by decide) c5 ?_
    refine g_iconst (n := -1) (x := (-1 : Int32)) X (by decide +kernel) (by decide) ?_
    obtain ⟨rfl, rfl⟩ := rt_E E
    exact g_ireturn X (by decide +kernel)
  · refine g_if_eq_f (off := 19) (tgt := 29) X (by decide +kernel) (by decide) c5 ?_
    refine g_aload_n (n := 0) X (by decide +kernel) 0 rfl ?_
    refine g_iload_n (n := 2) X (by decide +kernel) 2 rfl ?_
    obtain ⟨y7, e6, E⟩ := bp_E E
    refine g_callV1 (st := []) X [.int a2] (by decide +kernel) ml11_375 ho rfl rfl (by decide) (Nat.le_of_ble_eq_true rfl) (c11_isNode hK o a2 h3 ho e6) ?_
    rcases it_E E with ⟨c8, E⟩ | ⟨c8, E⟩
    · refine g_if_eq_t (off := 11) (tgt := 29) X (by decide +kernel) (by decide) c8 ?_
      refine g_iconst (n := -1) (x := (-1 : Int32)) X (by decide +kernel) (by decide) ?_
      obtain ⟨rfl, rfl⟩ := rt_E E
      exact g_ireturn X (by decide +kernel)
    · refine g_if_eq_f (off := 11) (tgt := 29) X (by decide +kernel) (by decide) c8 ?_
      refine g_aload_n (n := 0) X (by decide +kernel) 0 rfl ?_
      refine g_iload_n (n := 3) X (by decide +kernel) 3 rfl ?_
      obtain ⟨y10, e9, E⟩ := bp_E E
      refine g_callV1 (st := []) X [.int a3] (by decide +kernel) ml11_375 ho rfl rfl (by decide) (Nat.le_of_ble_eq_true rfl) (c11_isNode hK o a3 h3 ho e9) ?_
      rcases it_E E with ⟨c11, E⟩ | ⟨c11, E⟩
      · refine g_if_ne_f (off := 5) (tgt := 31) X (by decide +kernel) (by decide) (fun z => z c11) ?_
        refine g_iconst (n := -1) (x := (-1 : Int32)) X (by decide +kernel) (by decide) ?_
        obtain ⟨rfl, rfl⟩ := rt_E E
        exact g_ireturn X (by decide +kernel)
      · refine g_if_ne_t (off := 5) (tgt := 31) X (by decide +kernel) (by decide) c11 ?_
        refine g_iconst (n := 0) (x := (0 : Int32)) X (by decide +kernel) (by decide) ?_
        refine s_istore (i := 4) X (by decide +kernel) (by decide) rfl (ls_next (by decide) (Or.inr rfl) (ls_next (by decide) (Or.inr rfl) (ls_next (by decide) (Or.inr rfl) (ls_next (by decide) (Or.inr rfl) (ls_ins ls_end))))) ?_
        refine g_sub [0, 2, 3, 4] rfl ?_
        exact w11_far_L34 X hK o a2 a3 ho n (0 : Int32) h3 E
-- AskedNamesModel.facts
def f11_facts (K : Ly) (n : Nat) (o : Nat) (h : Hp) : Option (Int32) :=
    gd (inb ((17 : Int32) * (h.1 o 81)) 136) <|
    some (h.1 (o + 8) ((17 : Int32) * (h.1 o 81)).toNatClampNeg)
set_option maxHeartbeats 4000000 in
set_option maxRecDepth 20000 in
theorem c11_facts {sp : Sp} {K : Ly} {sz n : Nat} (hK : LyOk K) (o : Nat) (h : Hp) (ho : K o = some (.inl 11)) {v : Int32} (E : f11_facts K n o h = some v) : Con sp y11_facts prog_13_method_110_code 1 (some (.int)) 1 0 0 [.ref o] sz K h (some (.int v)) sz K h := by
  refine Con.of (by decide) (Nat.le_of_ble_eq_true rfl) (fun Γ X _ => ?_)
  show Go Γ (0, 0) 0 [(0, .ref o)] [] sz K h
  unfold f11_facts at E
  refine g_aload_n (n := 0) X (by decide +kernel) 0 rfl ?_
  refine g_getS X (by decide +kernel) fl11_32 ho ?_
  refine g_bipush (n := 17) (x := (17 : Int32)) X (by decide +kernel) (by decide) ?_
  refine g_aload_n (n := 0) X (by decide +kernel) 0 rfl ?_
  refine g_getI X (by decide +kernel) fl11_585 ho ?_
  refine g_imul X (by decide +kernel) ?_
  obtain ⟨c1, E⟩ := gd_E E
  refine g_iald X (by decide +kernel) (ly hK ho fl11_32 rfl) c1 ?_
  obtain rfl := Option.some.inj E
  exact g_ireturn X (by decide +kernel)
-- AskedNamesModel.factOf
def f11_factOf (K : Ly) (n : Nat) (o : Nat) (a1 : Int32) (a2 : Int32) (h : Hp) : Option (Int32) :=
    gd (inb (((((17 : Int32) * (h.1 o 81)) + (1 : Int32)) + ((2 : Int32) * a1)) + a2) 136) <|
    some (h.1 (o + 8) (((((17 : Int32) * (h.1 o 81)) + (1 : Int32)) + ((2 : Int32) * a1)) + a2).toNatClampNeg)
set_option maxHeartbeats 4000000 in
set_option maxRecDepth 20000 in
theorem c11_factOf {sp : Sp} {K : Ly} {sz n : Nat} (hK : LyOk K) (o : Nat) (a1 : Int32) (a2 : Int32) (h : Hp) (ho : K o = some (.inl 11)) {v : Int32} (E : f11_factOf K n o a1 a2 h = some v) : Con sp y11_factOf prog_13_method_111_code 3 (some (.int)) 1 0 0 [.ref o, .int a1, .int a2] sz K h (some (.int v)) sz K h := by
  refine Con.of (by decide) (Nat.le_of_ble_eq_true rfl) (fun Γ X _ => ?_)
  show Go Γ (0, 0) 0 [(0, .ref o), (1, .int a1), (2, .int a2)] [] sz K h
  unfold f11_factOf at E
  refine g_aload_n (n := 0) X (by decide +kernel) 0 rfl ?_
  refine g_getS X (by decide +kernel) fl11_32 ho ?_
  refine g_bipush (n := 17) (x := (17 : Int32)) X (by decide +kernel) (by decide) ?_
  refine g_aload_n (n := 0) X (by decide +kernel) 0 rfl ?_
  refine g_getI X (by decide +kernel) fl11_585 ho ?_
  refine g_imul X (by decide +kernel) ?_
  refine g_iconst (n := 1) (x := (1 : Int32)) X (by decide +kernel) (by decide) ?_
  refine g_iadd X (by decide +kernel) ?_
  refine g_iconst (n := 2) (x := (2 : Int32)) X (by decide +kernel) (by decide) ?_
  refine g_iload_n (n := 1) X (by decide +kernel) 1 rfl ?_
  refine g_imul X (by decide +kernel) ?_
  refine g_iadd X (by decide +kernel) ?_
  refine g_iload_n (n := 2) X (by decide +kernel) 2 rfl ?_
  refine g_iadd X (by decide +kernel) ?_
  obtain ⟨c1, E⟩ := gd_E E
  refine g_iald X (by decide +kernel) (ly hK ho fl11_32 rfl) c1 ?_
  obtain rfl := Option.some.inj E
  exact g_ireturn X (by decide +kernel)
-- AskedNamesModel.hasLog
def f11_hasLog (K : Ly) (n : Nat) (o : Nat) (a1 : Int32) (h : Hp) : Option (Int32 × Hp) :=
    lt (sI h o 81 a1) fun h1 =>
    bp (f11_is K n o (2 : Int32) a1 h1) fun y3 =>
    gd (isB y3) <|
    some (y3, h1)
set_option maxHeartbeats 4000000 in
set_option maxRecDepth 20000 in
theorem c11_hasLog {sp : Sp} {K : Ly} {sz n : Nat} (hK : LyOk K) (o : Nat) (a1 : Int32) (h : Hp) (ho : K o = some (.inl 11)) {v : Int32} {hf : Hp} (E : f11_hasLog K n o a1 h = some (v, hf)) : Con sp y11_hasLog prog_13_method_112_code 2 (some (.boolean)) 3 0 0 [.ref o, .int a1] sz K h (some (.int v)) sz K hf := by
  refine Con.of (by decide) (Nat.le_of_ble_eq_true rfl) (fun Γ X _ => ?_)
  show Go Γ (0, 0) 0 [(0, .ref o), (1, .int a1)] [] sz K h
  unfold f11_hasLog at E
  refine g_aload_n (n := 0) X (by decide +kernel) 0 rfl ?_
  refine g_iload_n (n := 1) X (by decide +kernel) 1 rfl ?_
  obtain ⟨h1, eh1, E⟩ := lt_E E
  refine g_putI X (by decide +kernel) fp11_585 ho eh1 ?_
  refine g_aload_n (n := 0) X (by decide +kernel) 0 rfl ?_
  refine g_iconst (n := 2) (x := (2 : Int32)) X (by decide +kernel) (by decide) ?_
  refine g_iload_n (n := 1) X (by decide +kernel) 1 rfl ?_
  obtain ⟨y3, e2, E⟩ := bp_E E
  refine g_callV1 (st := []) X [.int (2 : Int32), .int a1] (by decide +kernel) ml11_322 ho rfl rfl (by decide) (Nat.le_of_ble_eq_true rfl) (c11_is hK o (2 : Int32) a1 h1 ho e2) ?_
  obtain ⟨c4, E⟩ := gd_E E
  obtain ⟨rfl, rfl⟩ := rt_E E
  exact g_zreturn X (by decide +kernel) (isB_n c4)
-- AskedNamesModel.fact
def f11_fact (K : Ly) (n : Nat) (o : Nat) (a1 : Int32) (a2 : Int32) (a3 : Int32) (h : Hp) : Option (Int32 × Hp) :=
    lt (sI h o 0 (0 : Int32)) fun h1 =>
    bd (f11_hasLog K n o a1 h1) fun y4 h3 =>
    if y4 = 0 then (
    some ((-2 : Int32), h3))
    else (
    if a2 = (-1 : Int32) then (
    if a3 = 0 then (
    bp (f11_facts K n o h3) fun y9 =>
    some (y9, h3))
    else (
    some ((-2 : Int32), h3)))
    else (
    bp (f11_facts K n o h3) fun y11 =>
    if (f11_in a2 (0 : Int32) (y11 - (1 : Int32))) = 0 then (
    some ((-2 : Int32), h3))
    else (
    if (f11_in a3 (0 : Int32) (1 : Int32)) = 0 then (
    some ((-2 : Int32), h3))
    else (
    bp (f11_factOf K n o a2 a3 h3) fun y15 =>
    some (y15, h3)))))
set_option maxHeartbeats 4000000 in
set_option maxRecDepth 20000 in
theorem c11_fact {sp : Sp} {K : Ly} {sz n : Nat} (hK : LyOk K) (o : Nat) (a1 : Int32) (a2 : Int32) (a3 : Int32) (h : Hp) (ho : K o = some (.inl 11)) {v : Int32} {hf : Hp} (E : f11_fact K n o a1 a2 a3 h = some (v, hf)) : Con sp y11_fact prog_13_method_113_code 4 (some (.int)) 4 0 0 [.ref o, .int a1, .int a2, .int a3] sz K h (some (.int v)) sz K hf := by
  refine Con.of (by decide) (Nat.le_of_ble_eq_true rfl) (fun Γ X _ => ?_)
  show Go Γ (0, 0) 0 [(0, .ref o), (1, .int a1), (2, .int a2), (3, .int a3)] [] sz K h
  unfold f11_fact at E
  refine g_aload_n (n := 0) X (by decide +kernel) 0 rfl ?_
  refine g_iconst (n := 0) (x := (0 : Int32)) X (by decide +kernel) (by decide) ?_
  obtain ⟨h1, eh1, E⟩ := lt_E E
  refine g_putI X (by decide +kernel) fp11_169 ho eh1 ?_
  refine g_aload_n (n := 0) X (by decide +kernel) 0 rfl ?_
  refine g_iload_n (n := 1) X (by decide +kernel) 1 rfl ?_
  obtain ⟨y4, h3, e2, E⟩ := bd_E E
  refine g_callV1 (st := []) X [.int a1] (by decide +kernel) ml11_588 ho rfl rfl (by decide) (Nat.le_of_ble_eq_true rfl) (c11_hasLog hK o a1 h1 ho e2) ?_
  rcases it_E E with ⟨c5, E⟩ | ⟨c5, E⟩
  · refine g_if_ne_f (off := 6) (tgt := 16) X (by decide +kernel) (by decide) (fun z => z c5) ?_
    refine g_bipush (n := -2) (x := (-2 : Int32)) X (by decide +kernel) (by decide) ?_
    obtain ⟨rfl, rfl⟩ := rt_E E
    exact g_ireturn X (by decide +kernel)
  · refine g_if_ne_t (off := 6) (tgt := 16) X (by decide +kernel) (by decide) c5 ?_
    refine g_iload_n (n := 2) X (by decide +kernel) 2 rfl ?_
    refine g_iconst (n := -1) (x := (-1 : Int32)) X (by decide +kernel) (by decide) ?_
    rcases it_E E with ⟨c6, E⟩ | ⟨c6, E⟩
    · refine g_icmp_ne_f (off := 17) (tgt := 35) X (by decide +kernel) (by decide) (fun z => z c6) ?_
      refine g_iload_n (n := 3) X (by decide +kernel) 3 rfl ?_
      rcases it_E E with ⟨c7, E⟩ | ⟨c7, E⟩
      · refine g_if_ne_f (off := 10) (tgt := 32) X (by decide +kernel) (by decide) (fun z => z c7) ?_
        refine g_aload_n (n := 0) X (by decide +kernel) 0 rfl ?_
        obtain ⟨y9, e8, E⟩ := bp_E E
        refine g_callV1 (st := []) X [] (by decide +kernel) ml11_591 ho rfl rfl (by decide) (Nat.le_of_ble_eq_true rfl) (c11_facts hK o h3 ho e8) ?_
        refine g_goto (off := 5) (tgt := 34) X (by decide +kernel) (by decide) ?_
        obtain ⟨rfl, rfl⟩ := rt_E E
        exact g_ireturn X (by decide +kernel)
      · refine g_if_ne_t (off := 10) (tgt := 32) X (by decide +kernel) (by decide) c7 ?_
        refine g_bipush (n := -2) (x := (-2 : Int32)) X (by decide +kernel) (by decide) ?_
        obtain ⟨rfl, rfl⟩ := rt_E E
        exact g_ireturn X (by decide +kernel)
    · refine g_icmp_ne_t (off := 17) (tgt := 35) X (by decide +kernel) (by decide) c6 ?_
      refine g_iload_n (n := 2) X (by decide +kernel) 2 rfl ?_
      refine g_iconst (n := 0) (x := (0 : Int32)) X (by decide +kernel) (by decide) ?_
      refine g_aload_n (n := 0) X (by decide +kernel) 0 rfl ?_
      obtain ⟨y11, e10, E⟩ := bp_E E
      refine g_callV1 (st := [.int (0 : Int32), .int a2]) X [] (by decide +kernel) ml11_591 ho rfl rfl (by decide) (Nat.le_of_ble_eq_true rfl) (c11_facts hK o h3 ho e10) ?_
      refine g_iconst (n := 1) (x := (1 : Int32)) X (by decide +kernel) (by decide) ?_
      refine g_isub X (by decide +kernel) ?_
      refine g_callS1 (st := []) X [.int a2, .int (0 : Int32), .int (y11 - (1 : Int32))] (by decide +kernel) ml11_181 (by decide) (Nat.le_of_ble_eq_true rfl) (c11_in hK a2 (0 : Int32) (y11 - (1 : Int32)) h3 ) ?_
      rcases it_E E with ⟨c12, E⟩ | ⟨c12, E⟩
      · refine g_if_eq_t (off := 21) (tgt := 67) X (by decide +kernel) (by decide) c12 ?_
        refine g_bipush (n := -2) (x := (-2 : Int32)) X (by decide +kernel) (by decide) ?_
        obtain ⟨rfl, rfl⟩ := rt_E E
        exact g_ireturn X (by decide +kernel)
      · refine g_if_eq_f (off := 21) (tgt := 67) X (by decide +kernel) (by decide) c12 ?_
        refine g_iload_n (n := 3) X (by decide +kernel) 3 rfl ?_
        refine g_iconst (n := 0) (x := (0 : Int32)) X (by decide +kernel) (by decide) ?_
        refine g_iconst (n := 1) (x := (1 : Int32)) X (by decide +kernel) (by decide) ?_
        refine g_callS1 (st := []) X [.int a3, .int (0 : Int32), .int (1 : Int32)] (by decide +kernel) ml11_181 (by decide) (Nat.le_of_ble_eq_true rfl) (c11_in hK a3 (0 : Int32) (1 : Int32) h3 ) ?_
        rcases it_E E with ⟨c13, E⟩ | ⟨c13, E⟩
        · refine g_if_eq_t (off := 12) (tgt := 67) X (by decide +kernel) (by decide) c13 ?_
          refine g_bipush (n := -2) (x := (-2 : Int32)) X (by decide +kernel) (by decide) ?_
          obtain ⟨rfl, rfl⟩ := rt_E E
          exact g_ireturn X (by decide +kernel)
        · refine g_if_eq_f (off := 12) (tgt := 67) X (by decide +kernel) (by decide) c13 ?_
          refine g_aload_n (n := 0) X (by decide +kernel) 0 rfl ?_
          refine g_iload_n (n := 2) X (by decide +kernel) 2 rfl ?_
          refine g_iload_n (n := 3) X (by decide +kernel) 3 rfl ?_
          obtain ⟨y15, e14, E⟩ := bp_E E
          refine g_callV1 (st := []) X [.int a2, .int a3] (by decide +kernel) ml11_594 ho rfl rfl (by decide) (Nat.le_of_ble_eq_true rfl) (c11_factOf hK o a2 a3 h3 ho e14) ?_
          refine g_goto (off := 5) (tgt := 69) X (by decide +kernel) (by decide) ?_
          obtain ⟨rfl, rfl⟩ := rt_E E
          exact g_ireturn X (by decide +kernel)
-- AskedNamesModel.isSo
def f11_isSo_J37 (K : Ly) (n : Nat) (r2 : Int32 → Option (Int32)) (x0 : Nat) (x1 : Int32) (s0 : Int32) (h : Hp) : Option (Int32) :=
    bp (f11_factOf K n x0 x1 (1 : Int32) h) fun y10 =>
    if s0 = y10 then (
    lt (x1 + (1 : Int32)) fun x1_12 =>
    r2 x1_12)
    else (
    some (0 : Int32))
def f11_isSo_L2 (K : Ly) (n : Nat) (x0 : Nat) (h : Hp)  : Nat → Int32 → Option (Int32)
  | 0, _ => none
  | k + 1, x1 =>
    bp (f11_facts K n x0 h) fun y2 =>
    if y2 ≤ x1 then (
    some (1 : Int32))
    else (
    bp (f11_factOf K n x0 x1 (0 : Int32) h) fun y5 =>
    gd (inb y5 64) <|
    if (h.1 (x0 + 40) y5.toNatClampNeg) = (1 : Int32) then (
    gd (inb y5 64) <|
    f11_isSo_J37 K n (f11_isSo_L2 K n x0 h  k) x0 x1 (h.1 (x0 + 41) y5.toNatClampNeg) h)
    else (
    f11_isSo_J37 K n (f11_isSo_L2 K n x0 h  k) x0 x1 (-1 : Int32) h))
def f11_isSo (K : Ly) (n : Nat) (o : Nat) (h : Hp) : Option (Int32) :=
    f11_isSo_L2 K n o h n (0 : Int32)
set_option maxHeartbeats 4000000 in
set_option maxRecDepth 20000 in
theorem w11_isSo_J37 {Γ : CT} {sp : Sp} {K : Ly} {sz n : Nat} {v : Int32} {h : Hp}  {r2 : Int32 → Option (Int32)}  (X : Ok Γ sp prog_13_method_114_code Rc11 4 (some (.boolean)) 2 (some (.int v)) sz K h) (hK : LyOk K) (x0 : Nat) (x1 : Int32) (s0 : Int32)  (hr2 : ∀ (x1 : Int32), r2 x1 = some v → Go Γ (0, 0) 2 [(0, .ref x0), (1, .int x1)] [] sz K h) (px0 : K x0 = some (.inl 11)) (E : f11_isSo_J37 K n r2 x0 x1 s0 h = some v) : Go Γ (0, 0) 37 [(0, .ref x0), (1, .int x1)] [.int s0] sz K h := by
  unfold f11_isSo_J37 at E
  refine s_istore_n (n := 3) (i := 3) X (by decide +kernel) rfl (by decide) rfl (ls_next (by decide) (Or.inr rfl) (ls_next (by decide) (Or.inr rfl) (ls_ins ls_end))) ?_
  refine g_iload_n (n := 3) X (by decide +kernel) 2 rfl ?_
  refine g_aload_n (n := 0) X (by decide +kernel) 0 rfl ?_
  refine g_iload_n (n := 1) X (by decide +kernel) 1 rfl ?_
  refine g_iconst (n := 1) (x := (1 : Int32)) X (by decide +kernel) (by decide) ?_
  obtain ⟨y10, e9, E⟩ := bp_E E
  refine g_callV1 (st := [.int s0]) X [.int x1, .int (1 : Int32)] (by decide +kernel) ml11_594 px0 rfl rfl (by decide) (Nat.le_of_ble_eq_true rfl) (c11_factOf hK x0 x1 (1 : Int32) h px0 e9) ?_
  rcases it_E E with ⟨c11, E⟩ | ⟨c11, E⟩
  · refine g_icmp_eq_t (off := 5) (tgt := 50) X (by decide +kernel) (by decide) c11 ?_
    obtain ⟨x1_12, ex1_12, E⟩ := lt_E E
    refine s_iinc (i := 1) (n := 1) (y := x1_12) X (by decide +kernel) 1 rfl (by decide) ex1_12 (ls_next (by decide) (Or.inr rfl) (ls_here (ls_next (by decide) (Or.inr rfl) ls_end))) ?_
    refine g_goto (off := -51) (tgt := 2) X (by decide +kernel) (by decide) ?_
    refine g_sub [0, 1] rfl ?_
    exact hr2 x1_12  E
  · refine g_icmp_eq_f (off := 5) (tgt := 50) X (by decide +kernel) (by decide) c11 ?_
    refine g_iconst (n := 0) (x := (0 : Int32)) X (by decide +kernel) (by decide) ?_
    obtain rfl := Option.some.inj E
    exact g_zreturn X (by decide +kernel) rfl
set_option maxHeartbeats 4000000 in
set_option maxRecDepth 20000 in
theorem w11_isSo_L2 {Γ : CT} {sp : Sp} {K : Ly} {sz n : Nat} {v : Int32} {h : Hp}  (X : Ok Γ sp prog_13_method_114_code Rc11 4 (some (.boolean)) 2 (some (.int v)) sz K h) (hK : LyOk K) (x0 : Nat)  (px0 : K x0 = some (.inl 11))  : ∀ (k : Nat) (x1 : Int32), f11_isSo_L2 K n x0 h  k x1 = some v → Go Γ (0, 0) 2 [(0, .ref x0), (1, .int x1)] [] sz K h := by
  intro k
  induction k with
  | zero => intro x1 E; cases E
  | succ k ih =>
    intro x1 E
    unfold f11_isSo_L2 at E
    refine g_iload_n (n := 1) X (by decide +kernel) 1 rfl ?_
    refine g_aload_n (n := 0) X (by decide +kernel) 0 rfl ?_
    obtain ⟨y2, e1, E⟩ := bp_E E
    refine g_callV1 (st := [.int x1]) X [] (by decide +kernel) ml11_591 px0 rfl rfl (by decide) (Nat.le_of_ble_eq_true rfl) (c11_facts hK x0 h px0 e1) ?_
    rcases it_E E with ⟨c3, E⟩ | ⟨c3, E⟩
    · refine g_icmp_ge_t (off := 49) (tgt := 56) X (by decide +kernel) (by decide) c3 ?_
      refine g_iconst (n := 1) (x := (1 : Int32)) X (by decide +kernel) (by decide) ?_
      obtain rfl := Option.some.inj E
      exact g_zreturn X (by decide +kernel) rfl
    · refine g_icmp_ge_f (off := 49) (tgt := 56) X (by decide +kernel) (by decide) c3 ?_
      refine g_aload_n (n := 0) X (by decide +kernel) 0 rfl ?_
      refine g_iload_n (n := 1) X (by decide +kernel) 1 rfl ?_
      refine g_iconst (n := 0) (x := (0 : Int32)) X (by decide +kernel) (by decide) ?_
      obtain ⟨y5, e4, E⟩ := bp_E E
      refine g_callV1 (st := []) X [.int x1, .int (0 : Int32)] (by decide +kernel) ml11_594 px0 rfl rfl (by decide) (Nat.le_of_ble_eq_true rfl) (c11_factOf hK x0 x1 (0 : Int32) h px0 e4) ?_
      refine s_istore_n (n := 2) (i := 2) X (by decide +kernel) rfl (by decide) rfl (ls_next (by decide) (Or.inr rfl) (ls_next (by decide) (Or.inr rfl) (ls_ins ls_end))) ?_
      refine g_aload_n (n := 0) X (by decide +kernel) 0 rfl ?_
      refine g_getS X (by decide +kernel) fl11_129 px0 ?_
      refine g_iload_n (n := 2) X (by decide +kernel) 2 rfl ?_
      obtain ⟨c6, E⟩ := gd_E E
      refine g_iald X (by decide +kernel) (ly hK px0 fl11_129 rfl) c6 ?_
      refine g_iconst (n := 1) (x := (1 : Int32)) X (by decide +kernel) (by decide) ?_
      rcases it_E E with ⟨c7, E⟩ | ⟨c7, E⟩
      · refine g_icmp_ne_f (off := 12) (tgt := 36) X (by decide +kernel) (by decide) (fun z => z c7) ?_
        refine g_aload_n (n := 0) X (by decide +kernel) 0 rfl ?_
        refine g_getS X (by decide +kernel) fl11_132 px0 ?_
        refine g_iload_n (n := 2) X (by decide +kernel) 2 rfl ?_
        obtain ⟨c8, E⟩ := gd_E E
        refine g_iald X (by decide +kernel) (ly hK px0 fl11_132 rfl) c8 ?_
        refine g_goto (off := 4) (tgt := 37) X (by decide +kernel) (by decide) ?_
        refine g_sub [0, 1] rfl ?_
        exact w11_isSo_J37 X hK x0 x1 (h.1 (x0 + 41) y5.toNatClampNeg) ih px0 E
      · refine g_icmp_ne_t (off := 12) (tgt := 36) X (by decide +kernel) (by decide) c7 ?_
        refine g_iconst (n := -1) (x := (-1 : Int32)) X (by decide +kernel) (by decide) ?_
        refine g_sub [0, 1] rfl ?_
        exact w11_isSo_J37 X hK x0 x1 (-1 : Int32) ih px0 E
set_option maxHeartbeats 4000000 in
set_option maxRecDepth 20000 in
theorem c11_isSo {sp : Sp} {K : Ly} {sz n : Nat} (hK : LyOk K) (o : Nat) (h : Hp) (ho : K o = some (.inl 11)) {v : Int32} (E : f11_isSo K n o h = some v) : Con sp y11_isSo prog_13_method_114_code 4 (some (.boolean)) 2 0 0 [.ref o] sz K h (some (.int v)) sz K h := by
  refine Con.of (by decide) (Nat.le_of_ble_eq_true rfl) (fun Γ X _ => ?_)
  show Go Γ (0, 0) 0 [(0, .ref o)] [] sz K h
  unfold f11_isSo at E
  refine g_iconst (n := 0) (x := (0 : Int32)) X (by decide +kernel) (by decide) ?_
  refine s_istore_n (n := 1) (i := 1) X (by decide +kernel) rfl (by decide) rfl (ls_next (by decide) (Or.inr rfl) (ls_ins ls_end)) ?_
  exact w11_isSo_L2 X hK o ho n (0 : Int32) E
-- AskedNamesModel.noteFit
def f11_noteFit_J60 (K : Ly) (n : Nat) (r32 : Int32 → Hp → Option Hp) (x0 : Nat) (x3 : Int32) (s0 : Nat) (s1 : Int32) (s2 : Int32) (s3 : Int32) (h : Hp) : Option Hp :=
    gd (inb s1 40) <|
    lt (sI h s0 s1.toNatClampNeg (s2 + s3)) fun h9 =>
    lt (x3 + (1 : Int32)) fun x3_10 =>
    r32 x3_10 h9
def f11_noteFit_L32 (K : Ly) (n : Nat) (x0 : Nat)   : Nat → Int32 → Hp → Option Hp
  | 0, _, _ => none
  | k + 1, x3, h =>
    if (40 : Int32) ≤ x3 then (
    some h)
    else (
    gd (inb x3 40) <|
    gd (inb x3 64) <|
    f11_noteFit_J60 K n (f11_noteFit_L32 K n x0  k) x0 x3 (x0 + 51) x3 (h.1 (x0 + 51) x3.toNatClampNeg) (if (h.1 (x0 + 40) x3.toNatClampNeg) = (1 : Int32) then (1 : Int32) else (0 : Int32)) h)
def f11_noteFit_J17 (K : Ly) (n : Nat)  (x0 : Nat) (s0 : Nat) (s1 : Int32) (h : Hp) : Option Hp :=
    lt (sI h s0 83 s1) fun h2 =>
    lt (sI h2 x0 82 ((h2.1 x0 82) + (1 : Int32))) fun h3 =>
    f11_noteFit_L32 K n x0 n (0 : Int32) h3
def f11_noteFit (K : Ly) (n : Nat) (o : Nat) (a1 : Int32) (a2 : Int32) (h : Hp) : Option Hp :=
    f11_noteFit_J17 K n o o (if (h.1 o 82) = a2 then a1 else (h.1 o 83)) h
set_option maxHeartbeats 4000000 in
set_option maxRecDepth 20000 in
theorem w11_noteFit_J60 {Γ : CT} {sp : Sp} {K : Ly} {sz n : Nat} {hf : Hp}  {r32 : Int32 → Hp → Option Hp}  (X : Ok Γ sp prog_13_method_115_code Rc11 4 none 1 none sz K hf) (hK : LyOk K) (x0 : Nat) (x3 : Int32) (s0 : Nat) (s1 : Int32) (s2 : Int32) (s3 : Int32) (h : Hp) (hr32 : ∀ (x3 : Int32) (h : Hp), r32 x3 h = some hf → Go Γ (0, 0) 32 [(0, .ref x0), (3, .int x3)] [] sz K h) (px0 : K x0 = some (.inl 11)) (ps0 : K s0 = some (.inr (0, 40))) (E : f11_noteFit_J60 K n r32 x0 x3 s0 s1 s2 s3 h = some hf) : Go Γ (0, 0) 60 [(0, .ref x0), (3, .int x3)] [.int s3, .int s2, .int s1, .ref s0] sz K h := by
  unfold f11_noteFit_J60 at E
  refine g_iadd X (by decide +kernel) ?_
  obtain ⟨c8, E⟩ := gd_E E
  obtain ⟨h9, eh9, E⟩ := lt_E E
  refine g_iast X (by decide +kernel) ps0 c8 eh9 ?_
  obtain ⟨x3_10, ex3_10, E⟩ := lt_E E
  refine s_iinc (i := 3) (n := 1) (y := x3_10) X (by decide +kernel) 1 rfl (by decide) ex3_10 (ls_next (by decide) (Or.inr rfl) (ls_here ls_end)) ?_
  refine g_goto (off := -33) (tgt := 32) X (by decide +kernel) (by decide) ?_
  exact hr32 x3_10 h9  E
set_option maxHeartbeats 4000000 in
set_option maxRecDepth 20000 in
theorem w11_noteFit_L32 {Γ : CT} {sp : Sp} {K : Ly} {sz n : Nat} {hf : Hp}  (X : Ok Γ sp prog_13_method_115_code Rc11 4 none 1 none sz K hf) (hK : LyOk K) (x0 : Nat)  (px0 : K x0 = some (.inl 11))  : ∀ (k : Nat) (x3 : Int32) (h : Hp), f11_noteFit_L32 K n x0  k x3 h = some hf → Go Γ (0, 0) 32 [(0, .ref x0), (3, .int x3)] [] sz K h := by
  intro k
  induction k with
  | zero => intro x3 h E; cases E
  | succ k ih =>
    intro x3 h E
    unfold f11_noteFit_L32 at E
    refine g_iload_n (n := 3) X (by decide +kernel) 1 rfl ?_
    refine g_bipush (n := 40) (x := (40 : Int32)) X (by decide +kernel) (by decide) ?_
    rcases it_E E with ⟨c4, E⟩ | ⟨c4, E⟩
    · refine g_icmp_ge_t (off := 33) (tgt := 68) X (by decide +kernel) (by decide) c4 ?_
      obtain rfl := Option.some.inj E
      exact g_return X (by decide +kernel)
    · refine g_icmp_ge_f (off := 33) (tgt := 68) X (by decide +kernel) (by decide) c4 ?_
      refine g_aload_n (n := 0) X (by decide +kernel) 0 rfl ?_
      refine g_getS X (by decide +kernel) fl11_162 px0 ?_
      refine g_iload_n (n := 3) X (by decide +kernel) 1 rfl ?_
      refine g_dup2 X (by decide +kernel) rfl rfl ?_
      obtain ⟨c5, E⟩ := gd_E E
      refine g_iald X (by decide +kernel) (ly hK px0 fl11_162 rfl) c5 ?_
      refine g_aload_n (n := 0) X (by decide +kernel) 0 rfl ?_
      refine g_getS X (by decide +kernel) fl11_129 px0 ?_
      refine g_iload_n (n := 3) X (by decide +kernel) 1 rfl ?_
      obtain ⟨c6, E⟩ := gd_E E
      refine g_iald X (by decide +kernel) (ly hK px0 fl11_129 rfl) c6 ?_
      refine g_iconst (n := 1) (x := (1 : Int32)) X (by decide +kernel) (by decide) ?_
      have hJ : Go Γ (0, 0) 60 [(0, .ref x0), (3, .int x3)] [.int (if (h.1 (x0 + 40) x3.toNatClampNeg) = (1 : Int32) then (1 : Int32) else (0 : Int32)), .int (h.1 (x0 + 51) x3.toNatClampNeg), .int x3, .ref (x0 + 51)] sz K h := by
        exact w11_noteFit_J60 X hK x0 x3 (x0 + 51) x3 (h.1 (x0 + 51) x3.toNatClampNeg) (if (h.1 (x0 + 40) x3.toNatClampNeg) = (1 : Int32) then (1 : Int32) else (0 : Int32)) h ih px0 (ly hK px0 fl11_162 rfl) E
      clear E
      by_cases c7 : (h.1 (x0 + 40) x3.toNatClampNeg) = (1 : Int32)
      · rw [if_pos c7] at hJ
        refine g_icmp_ne_f (off := 7) (tgt := 59) X (by decide +kernel) (by decide) (fun z => z c7) ?_
        refine g_iconst (n := 1) (x := (1 : Int32)) X (by decide +kernel) (by decide) ?_
        refine g_goto (off := 4) (tgt := 60) X (by decide +kernel) (by decide) ?_
        exact hJ
      · rw [if_neg c7] at hJ
        refine g_icmp_ne_t (off := 7) (tgt := 59) X (by decide +kernel) (by decide) c7 ?_
        refine g_iconst (n := 0) (x := (0 : Int32)) X (by decide +kernel) (by decide) ?_
        exact hJ
set_option maxHeartbeats 4000000 in
set_option maxRecDepth 20000 in
theorem w11_noteFit_J17 {Γ : CT} {sp : Sp} {K : Ly} {sz n : Nat} {hf : Hp}   (X : Ok Γ sp prog_13_method_115_code Rc11 4 none 1 none sz K hf) (hK : LyOk K) (x0 : Nat) (s0 : Nat) (s1 : Int32) (h : Hp)  (px0 : K x0 = some (.inl 11)) (ps0 : K s0 = some (.inl 11)) (E : f11_noteFit_J17 K n x0 s0 s1 h = some hf) : Go Γ (0, 0) 17 [(0, .ref x0)] [.int s1, .ref s0] sz K h := by
  unfold f11_noteFit_J17 at E
  obtain ⟨h2, eh2, E⟩ := lt_E E
  refine g_putI X (by decide +kernel) fp11_600 ps0 eh2 ?_
  refine g_aload_n (n := 0) X (by decide +kernel) 0 rfl ?_
  refine g_dup X (by decide +kernel) rfl ?_
  refine g_getI X (by decide +kernel) fl11_597 px0 ?_
  refine g_iconst (n := 1) (x := (1 : Int32)) X (by decide +kernel) (by decide) ?_
  refine g_iadd X (by decide +kernel) ?_
  obtain ⟨h3, eh3, E⟩ := lt_E E
  refine g_putI X (by decide +kernel) fp11_597 px0 eh3 ?_
  refine g_iconst (n := 0) (x := (0 : Int32)) X (by decide +kernel) (by decide) ?_
  refine s_istore_n (n := 3) (i := 3) X (by decide +kernel) rfl (by decide) rfl (ls_next (by decide) (Or.inr rfl) (ls_ins ls_end)) ?_
  exact w11_noteFit_L32 X hK x0 px0 n (0 : Int32) h3 E
set_option maxHeartbeats 4000000 in
set_option maxRecDepth 20000 in
theorem c11_noteFit {sp : Sp} {K : Ly} {sz n : Nat} (hK : LyOk K) (o : Nat) (a1 : Int32) (a2 : Int32) (h : Hp) (ho : K o = some (.inl 11)) {hf : Hp} (E : f11_noteFit K n o a1 a2 h = some hf) : Con sp y11_noteFit prog_13_method_115_code 4 none 1 0 0 [.ref o, .int a1, .int a2] sz K h none sz K hf := by
  refine Con.of (by decide) (Nat.le_of_ble_eq_true rfl) (fun Γ X _ => ?_)
  show Go Γ (0, 0) 0 [(0, .ref o), (1, .int a1), (2, .int a2)] [] sz K h
  unfold f11_noteFit at E
  refine g_aload_n (n := 0) X (by decide +kernel) 0 rfl ?_
  refine g_aload_n (n := 0) X (by decide +kernel) 0 rfl ?_
  refine g_getI X (by decide +kernel) fl11_597 ho ?_
  refine g_iload_n (n := 2) X (by decide +kernel) 2 rfl ?_
  have hJ : Go Γ (0, 0) 17 [(0, .ref o)] [.int (if (h.1 o 82) = a2 then a1 else (h.1 o 83)), .ref o] sz K h := by
    exact w11_noteFit_J17 X hK o o (if (h.1 o 82) = a2 then a1 else (h.1 o 83)) h ho ho E
  clear E
  by_cases c1 : (h.1 o 82) = a2
  · rw [if_pos c1] at hJ
    refine g_icmp_ne_f (off := 7) (tgt := 13) X (by decide +kernel) (by decide) (fun z => z c1) ?_
    refine g_iload_n (n := 1) X (by decide +kernel) 1 rfl ?_
    refine g_goto (off := 7) (tgt := 17) X (by decide +kernel) (by decide) ?_
    refine g_sub [0] rfl ?_
    exact hJ
  · rw [if_neg c1] at hJ
    refine g_icmp_ne_t (off := 7) (tgt := 13) X (by decide +kernel) (by decide) c1 ?_
    refine g_aload_n (n := 0) X (by decide +kernel) 0 rfl ?_
    refine g_getI X (by decide +kernel) fl11_600 ho ?_
    refine g_sub [0] rfl ?_
    exact hJ
-- AskedNamesModel.askWhat
def f11_askWhat_L8 (K : Ly) (n : Nat) (x0 : Nat) (h : Hp)  : Nat → Int32 → Int32 → Int32 → Option (Int32)
  | 0, _, _, _ => none
  | k + 1, x1, x2, x3 =>
    bp (f11_deeds K n x0 h) fun y2 =>
    if y2 ≤ x3 then (
    some x1)
    else (
    if (h.1 x0 82) ≤ 0 then (
    some x1)
    else (
    gd (inb x3 40) <|
    gd (inb x3 40) <|
    lt (f11_greater (h.1 (x0 + 51) x3.toNatClampNeg) ((h.1 x0 82) - (h.1 (x0 + 51) x3.toNatClampNeg))) fun x4_7 =>
    bp (f11_deedOf K n x0 x3 (0 : Int32) h) fun y9 =>
    lt (x3 + (1 : Int32)) fun x3_12 =>
    f11_askWhat_L8 K n x0 h  k (if (1 : Int32) < y9 then x1 else (if x2 ≤ x4_7 then x1 else x3)) (if (1 : Int32) < y9 then x2 else (if x2 ≤ x4_7 then x2 else x4_7)) x3_12))
def f11_askWhat (K : Ly) (n : Nat) (o : Nat) (h : Hp) : Option (Int32) :=
    f11_askWhat_L8 K n o h n (-1 : Int32) (1000000 : Int32) (0 : Int32)
set_option maxHeartbeats 4000000 in
set_option maxRecDepth 20000 in
theorem w11_askWhat_L8 {Γ : CT} {sp : Sp} {K : Ly} {sz n : Nat} {v : Int32} {h : Hp}  (X : Ok Γ sp prog_13_method_116_code Rc11 5 (some (.int)) 2 (some (.int v)) sz K h) (hK : LyOk K) (x0 : Nat)  (px0 : K x0 = some (.inl 11))  : ∀ (k : Nat) (x1 : Int32) (x2 : Int32) (x3 : Int32), f11_askWhat_L8 K n x0 h  k x1 x2 x3 = some v → Go Γ (0, 0) 8 [(0, .ref x0), (1, .int x1), (2, .int x2), (3, .int x3)] [] sz K h := by
  intro k
  induction k with
  | zero => intro x1 x2 x3 E; cases E
  | succ k ih =>
    intro x1 x2 x3 E
    unfold f11_askWhat_L8 at E
    refine g_iload_n (n := 3) X (by decide +kernel) 3 rfl ?_
    refine g_aload_n (n := 0) X (by decide +kernel) 0 rfl ?_
    obtain ⟨y2, e1, E⟩ := bp_E E
    refine g_callV1 (st := [.int x3]) X [] (by decide +kernel) ml11_534 px0 rfl rfl (by decide) (Nat.le_of_ble_eq_true rfl) (c11_deeds hK x0 h px0 e1) ?_
    rcases it_E E with ⟨c3, E⟩ | ⟨c3, E⟩
    · refine g_icmp_ge_t (off := 59) (tgt := 72) X (by decide +kernel) (by decide) c3 ?_
      refine g_iload_n (n := 1) X (by decide +kernel) 1 rfl ?_
      obtain rfl := Option.some.inj E
      exact g_ireturn X (by decide +kernel)
    · refine g_icmp_ge_f (off := 59) (tgt := 72) X (by decide +kernel) (by decide) c3 ?_
      refine g_aload_n (n := 0) X (by decide +kernel) 0 rfl ?_
      refine g_getI X (by decide +kernel) fl11_597 px0 ?_
      rcases it_E E with ⟨c4, E⟩ | ⟨c4, E⟩
      · refine g_if_le_t (off := 52) (tgt := 72) X (by decide +kernel) (by decide) c4 ?_
        refine g_iload_n (n := 1) X (by decide +kernel) 1 rfl ?_
        obtain rfl := Option.some.inj E
        exact g_ireturn X (by decide +kernel)
      · refine g_if_le_f (off := 52) (tgt := 72) X (by decide +kernel) (by decide) c4 ?_
        refine g_aload_n (n := 0) X (by decide +kernel) 0 rfl ?_
        refine g_getS X (by decide +kernel) fl11_162 px0 ?_
        refine g_iload_n (n := 3) X (by decide +kernel) 3 rfl ?_
        obtain ⟨c5, E⟩ := gd_E E
        refine g_iald X (by decide +kernel) (ly hK px0 fl11_162 rfl) c5 ?_
        refine g_aload_n (n := 0) X (by decide +kernel) 0 rfl ?_
        refine g_getI X (by decide +kernel) fl11_597 px0 ?_
        refine g_aload_n (n := 0) X (by decide +kernel) 0 rfl ?_
        refine g_getS X (by decide +kernel) fl11_162 px0 ?_
        refine g_iload_n (n := 3) X (by decide +kernel) 3 rfl ?_
        obtain ⟨c6, E⟩ := gd_E E
        refine g_iald X (by decide +kernel) (ly hK px0 fl11_162 rfl) c6 ?_
        refine g_isub X (by decide +kernel) ?_
        refine g_callS1 (st := []) X [.int (h.1 (x0 + 51) x3.toNatClampNeg), .int ((h.1 x0 82) - (h.1 (x0 + 51) x3.toNatClampNeg))] (by decide +kernel) ml11_243 (by decide) (Nat.le_of_ble_eq_true rfl) (c11_greater hK (h.1 (x0 + 51) x3.toNatClampNeg) ((h.1 x0 82) - (h.1 (x0 + 51) x3.toNatClampNeg)) h ) ?_
        obtain ⟨x4_7, ex4_7, E⟩ := lt_E E
        refine s_istore (i := 4) X (by decide +kernel) (by decide) ex4_7 (ls_next (by decide) (Or.inr rfl) (ls_next (by decide) (Or.inr rfl) (ls_next (by decide) (Or.inr rfl) (ls_next (by decide) (Or.inr rfl) (ls_ins ls_end))))) ?_
        refine g_aload_n (n := 0) X (by decide +kernel) 0 rfl ?_
        refine g_iload_n (n := 3) X (by decide +kernel) 3 rfl ?_
        refine g_iconst (n := 0) (x := (0 : Int32)) X (by decide +kernel) (by decide) ?_
        obtain ⟨y9, e8, E⟩ := bp_E E
        refine g_callV1 (st := []) X [.int x3, .int (0 : Int32)] (by decide +kernel) ml11_537 px0 rfl rfl (by decide) (Nat.le_of_ble_eq_true rfl) (c11_deedOf hK x0 x3 (0 : Int32) h px0 e8) ?_
        refine g_iconst (n := 1) (x := (1 : Int32)) X (by decide +kernel) (by decide) ?_
        have hJ : Go Γ (0, 0) 66 [(0, .ref x0), (1, .int (if (1 : Int32) < y9 then x1 else (if x2 ≤ x4_7 then x1 else x3))), (2, .int (if (1 : Int32) < y9 then x2 else (if x2 ≤ x4_7 then x2 else x4_7))), (3, .int x3)] [] sz K h := by
          obtain ⟨x3_12, ex3_12, E⟩ := lt_E E
          refine s_iinc (i := 3) (n := 1) (y := x3_12) X (by decide +kernel) 3 rfl (by decide) ex3_12 (ls_next (by decide) (Or.inr rfl) (ls_next (by decide) (Or.inr rfl) (ls_next (by decide) (Or.inr rfl) (ls_here ls_end)))) ?_
          refine g_goto (off := -61) (tgt := 8) X (by decide +kernel) (by decide) ?_
          exact ih (if (1 : Int32) < y9 then x1 else (if x2 ≤ x4_7 then x1 else x3)) (if (1 : Int32) < y9 then x2 else (if x2 ≤ x4_7 then x2 else x4_7)) x3_12  E
        clear E
        by_cases c10 : (1 : Int32) < y9
        · rw [if_pos c10, if_pos c10] at hJ
          refine g_icmp_gt_t (off := 14) (tgt := 66) X (by decide +kernel) (by decide) c10 ?_
          refine g_sub [0, 1, 2, 3] rfl ?_
          exact hJ
        · rw [if_neg c10, if_neg c10] at hJ
          refine g_icmp_gt_f (off := 14) (tgt := 66) X (by decide +kernel) (by decide) c10 ?_
          refine g_iload (n := 4) X (by decide +kernel) 4 rfl ?_
          refine g_iload_n (n := 2) X (by decide +kernel) 2 rfl ?_
          by_cases c11 : x2 ≤ x4_7
          · rw [if_pos c11, if_pos c11] at hJ
            refine g_icmp_ge_t (off := 8) (tgt := 66) X (by decide +kernel) (by decide) c11 ?_
            refine g_sub [0, 1, 2, 3] rfl ?_
            exact hJ
          · rw [if_neg c11, if_neg c11] at hJ
            refine g_icmp_ge_f (off := 8) (tgt := 66) X (by decide +kernel) (by decide) c11 ?_
            refine g_iload_n (n := 3) X (by decide +kernel) 3 rfl ?_
            refine s_istore_n (n := 1) (i := 1) X (by decide +kernel) rfl (by decide) rfl (ls_next (by decide) (Or.inr rfl) (ls_here (ls_next (by decide) (Or.inr rfl) (ls_next (by decide) (Or.inr rfl) (ls_next (by decide) (Or.inr rfl) ls_end))))) ?_
            refine g_iload (n := 4) X (by decide +kernel) 4 rfl ?_
            refine s_istore_n (n := 2) (i := 2) X (by decide +kernel) rfl (by decide) rfl (ls_next (by decide) (Or.inr rfl) (ls_next (by decide) (Or.inr rfl) (ls_here (ls_next (by decide) (Or.inr rfl) (ls_next (by decide) (Or.inr rfl) ls_end))))) ?_
            refine g_sub [0, 1, 2, 3] rfl ?_
            exact hJ
set_option maxHeartbeats 4000000 in
set_option maxRecDepth 20000 in
theorem c11_askWhat {sp : Sp} {K : Ly} {sz n : Nat} (hK : LyOk K) (o : Nat) (h : Hp) (ho : K o = some (.inl 11)) {v : Int32} (E : f11_askWhat K n o h = some v) : Con sp y11_askWhat prog_13_method_116_code 5 (some (.int)) 2 0 0 [.ref o] sz K h (some (.int v)) sz K h := by
  refine Con.of (by decide) (Nat.le_of_ble_eq_true rfl) (fun Γ X _ => ?_)
  show Go Γ (0, 0) 0 [(0, .ref o)] [] sz K h
  unfold f11_askWhat at E
  refine g_iconst (n := -1) (x := (-1 : Int32)) X (by decide +kernel) (by decide) ?_
  refine s_istore_n (n := 1) (i := 1) X (by decide +kernel) rfl (by decide) rfl (ls_next (by decide) (Or.inr rfl) (ls_ins ls_end)) ?_
  refine g_ldc_w (index := 445) (x := (1000000 : Int32)) X (by decide +kernel) (in_c8 47 rfl rfl) ?_
  refine s_istore_n (n := 2) (i := 2) X (by decide +kernel) rfl (by decide) rfl (ls_next (by decide) (Or.inr rfl) (ls_next (by decide) (Or.inr rfl) (ls_ins ls_end))) ?_
  refine g_iconst (n := 0) (x := (0 : Int32)) X (by decide +kernel) (by decide) ?_
  refine s_istore_n (n := 3) (i := 3) X (by decide +kernel) rfl (by decide) rfl (ls_next (by decide) (Or.inr rfl) (ls_next (by decide) (Or.inr rfl) (ls_next (by decide) (Or.inr rfl) (ls_ins ls_end)))) ?_
  exact w11_askWhat_L8 X hK o ho n (-1 : Int32) (1000000 : Int32) (0 : Int32) E
