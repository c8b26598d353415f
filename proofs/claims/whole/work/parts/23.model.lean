-- AskedNamesModel.fits
def f11_fits_L63 (K : Ly) (n : Nat) (x0 : Nat) (x4 : Int32)   : Nat → Int32 → Hp → Option (Int32 × Hp)
  | 0, _, _ => none
  | k + 1, x5, h =>
    bp (f11_links K n x0 h) fun y17 =>
    if y17 ≤ x5 then (
    if x4 < (10 : Int32) then (
    if x4 = 0 then (
    some ((h.1 x0 82), h))
    else (
    if x4 = (1 : Int32) then (
    bp (f11_askWhat K n x0 h) fun y23 =>
    some (y23, h))
    else (
    some ((-2 : Int32), h))))
    else (
    some ((h.1 x0 83), h)))
    else (
    bp (f11_begin K n x0 x5 h) fun h25 =>
    bp (f11_deeds K n x0 h25) fun y27 =>
    bd (f11_play K n x0 y27 h25) fun y30 h29 =>
    bp (f11_isSo K n x0 h29) fun y32 =>
    if y32 = 0 then (
    lt (x5 + (1 : Int32)) fun x5_34 =>
    f11_fits_L63 K n x0 x4  k x5_34 h29)
    else (
    bp (f11_noteFit K n x0 x5 (x4 - (10 : Int32)) h29) fun h36 =>
    lt (x5 + (1 : Int32)) fun x5_37 =>
    f11_fits_L63 K n x0 x4  k x5_37 h36))
def f11_fits_L39 (K : Ly) (n : Nat) (x0 : Nat) (x4 : Int32)   : Nat → Int32 → Hp → Option (Int32 × Hp)
  | 0, _, _ => none
  | k + 1, x5, h =>
    if (40 : Int32) ≤ x5 then (
    f11_fits_L63 K n x0 x4 n (-1 : Int32) h)
    else (
    gd (inb x5 40) <|
    lt (sI h (x0 + 51) x5.toNatClampNeg (0 : Int32)) fun h14 =>
    lt (x5 + (1 : Int32)) fun x5_15 =>
    f11_fits_L39 K n x0 x4  k x5_15 h14)
def f11_fits (K : Ly) (n : Nat) (o : Nat) (a1 : Int32) (a2 : Int32) (a3 : Int32) (a4 : Int32) (h : Hp) : Option (Int32 × Hp) :=
    lt (sI h o 0 (0 : Int32)) fun h1 =>
    bd (f11_hasLog K n o a3 h1) fun y4 h3 =>
    if y4 = 0 then (
    some ((-2 : Int32), h3))
    else (
    bd (f11_lay K n o a1 a2 h3) fun y8 h7 =>
    if y8 = 0 then (
    some ((-2 : Int32), h7))
    else (
    lt (sI h7 o 82 (0 : Int32)) fun h10 =>
    lt (sI h10 o 83 (-2 : Int32)) fun h11 =>
    f11_fits_L39 K n o a4 n (0 : Int32) h11))
set_option maxHeartbeats 4000000 in
set_option maxRecDepth 20000 in
theorem w11_fits_L63 {Γ : CT} {sp : Sp} {K : Ly} {sz n : Nat} {v : Int32} {hf : Hp}  (X : Ok Γ sp prog_13_method_117_code Rc11 6 (some (.int)) 13 (some (.int v)) sz K hf) (hK : LyOk K) (x0 : Nat) (x4 : Int32)  (px0 : K x0 = some (.inl 11))  : ∀ (k : Nat) (x5 : Int32) (h : Hp), f11_fits_L63 K n x0 x4  k x5 h = some (v, hf) → Go Γ (0, 0) 63 [(0, .ref x0), (4, .int x4), (5, .int x5)] [] sz K h := by
  intro k
  induction k with
  | zero => intro x5 h E; cases E
  | succ k ih =>
    intro x5 h E
    unfold f11_fits_L63 at E
    refine g_iload (n := 5) X (by decide +kernel) 2 rfl ?_
    refine g_aload_n (n := 0) X (by decide +kernel) 0 rfl ?_
    obtain ⟨y17, e16, E⟩ := bp_E E
    refine g_callV1 (st := [.int x5]) X [] (by decide +kernel) ml11_345 px0 rfl rfl (by decide) (Nat.le_of_ble_eq_true rfl) (c11_links hK x0 h px0 e16) ?_
    rcases it_E E with ⟨c18, E⟩ | ⟨c18, E⟩
    · refine g_icmp_ge_t (off := 42) (tgt := 111) X (by decide +kernel) (by decide) c18 ?_
      refine g_iload (n := 4) X (by decide +kernel) 1 rfl ?_
      refine g_bipush (n := 10) (x := (10 : Int32)) X (by decide +kernel) (by decide) ?_
      rcases it_E E with ⟨c19, E⟩ | ⟨c19, E⟩
      · refine g_icmp_lt_t (off := 8) (tgt := 123) X (by decide +kernel) (by decide) c19 ?_
        refine g_iload (n := 4) X (by decide +kernel) 1 rfl ?_
        rcases it_E E with ⟨c20, E⟩ | ⟨c20, E⟩
        · refine g_if_ne_f (off := 10) (tgt := 135) X (by decide +kernel) (by decide) (fun z => z c20) ?_
          refine g_aload_n (n := 0) X (by decide +kernel) 0 rfl ?_
          refine g_getI X (by decide +kernel) fl11_597 px0 ?_
          refine g_goto (off := 18) (tgt := 150) X (by decide +kernel) (by decide) ?_
          obtain ⟨rfl, rfl⟩ := rt_E E
          exact g_ireturn X (by decide +kernel)
        · refine g_if_ne_t (off := 10) (tgt := 135) X (by decide +kernel) (by decide) c20 ?_
          refine g_iload (n := 4) X (by decide +kernel) 1 rfl ?_
          refine g_iconst (n := 1) (x := (1 : Int32)) X (by decide +kernel) (by decide) ?_
          rcases it_E E with ⟨c21, E⟩ | ⟨c21, E⟩
          · refine g_icmp_ne_f (off := 10) (tgt := 148) X (by decide +kernel) (by decide) (fun z => z c21) ?_
            refine g_aload_n (n := 0) X (by decide +kernel) 0 rfl ?_
            obtain ⟨y23, e22, E⟩ := bp_E E
            refine g_callV1 (st := []) X [] (by decide +kernel) ml11_609 px0 rfl rfl (by decide) (Nat.le_of_ble_eq_true rfl) (c11_askWhat hK x0 h px0 e22) ?_
            refine g_goto (off := 5) (tgt := 150) X (by decide +kernel) (by decide) ?_
            obtain ⟨rfl, rfl⟩ := rt_E E
            exact g_ireturn X (by decide +kernel)
          · refine g_icmp_ne_t (off := 10) (tgt := 148) X (by decide +kernel) (by decide) c21 ?_
            refine g_bipush (n := -2) (x := (-2 : Int32)) X (by decide +kernel) (by decide) ?_
            obtain ⟨rfl, rfl⟩ := rt_E E
            exact g_ireturn X (by decide +kernel)
      · refine g_icmp_lt_f (off := 8) (tgt := 123) X (by decide +kernel) (by decide) c19 ?_
        refine g_aload_n (n := 0) X (by decide +kernel) 0 rfl ?_
        refine g_getI X (by decide +kernel) fl11_600 px0 ?_
        obtain ⟨rfl, rfl⟩ := rt_E E
        exact g_ireturn X (by decide +kernel)
    · refine g_icmp_ge_f (off := 42) (tgt := 111) X (by decide +kernel) (by decide) c18 ?_
      refine g_aload_n (n := 0) X (by decide +kernel) 0 rfl ?_
      refine g_iload (n := 5) X (by decide +kernel) 2 rfl ?_
      obtain ⟨h25, e24, E⟩ := bp_E E
      refine g_callV0 (st := []) X [.int x5] (by decide +kernel) ml11_549 px0 rfl rfl (by decide) (Nat.le_of_ble_eq_true rfl) (c11_begin hK x0 x5 h px0 e24) ?_
      refine g_aload_n (n := 0) X (by decide +kernel) 0 rfl ?_
      refine g_aload_n (n := 0) X (by decide +kernel) 0 rfl ?_
      obtain ⟨y27, e26, E⟩ := bp_E E
      refine g_callV1 (st := [.ref x0]) X [] (by decide +kernel) ml11_534 px0 rfl rfl (by decide) (Nat.le_of_ble_eq_true rfl) (c11_deeds hK x0 h25 px0 e26) ?_
      obtain ⟨y30, h29, e28, E⟩ := bd_E E
      refine g_callV1 (st := []) X [.int y27] (by decide +kernel) ml11_555 px0 rfl rfl (by decide) (Nat.le_of_ble_eq_true rfl) (c11_play hK x0 y27 h25 px0 e28) ?_
      refine g_pop X (by decide +kernel) rfl ?_
      refine g_aload_n (n := 0) X (by decide +kernel) 0 rfl ?_
      obtain ⟨y32, e31, E⟩ := bp_E E
      refine g_callV1 (st := []) X [] (by decide +kernel) ml11_603 px0 rfl rfl (by decide) (Nat.le_of_ble_eq_true rfl) (c11_isSo hK x0 h29 px0 e31) ?_
      rcases it_E E with ⟨c33, E⟩ | ⟨c33, E⟩
      · refine g_if_eq_t (off := 14) (tgt := 105) X (by decide +kernel) (by decide) c33 ?_
        obtain ⟨x5_34, ex5_34, E⟩ := lt_E E
        refine s_iinc (i := 5) (n := 1) (y := x5_34) X (by decide +kernel) 2 rfl (by decide) ex5_34 (ls_next (by decide) (Or.inr rfl) (ls_next (by decide) (Or.inr rfl) (ls_here ls_end))) ?_
        refine g_goto (off := -45) (tgt := 63) X (by decide +kernel) (by decide) ?_
        exact ih x5_34 h29  E
      · refine g_if_eq_f (off := 14) (tgt := 105) X (by decide +kernel) (by decide) c33 ?_
        refine g_aload_n (n := 0) X (by decide +kernel) 0 rfl ?_
        refine g_iload (n := 5) X (by decide +kernel) 2 rfl ?_
        refine g_iload (n := 4) X (by decide +kernel) 1 rfl ?_
        refine g_bipush (n := 10) (x := (10 : Int32)) X (by decide +kernel) (by decide) ?_
        refine g_isub X (by decide +kernel) ?_
        obtain ⟨h36, e35, E⟩ := bp_E E
        refine g_callV0 (st := []) X [.int x5, .int (x4 - (10 : Int32))] (by decide +kernel) ml11_606 px0 rfl rfl (by decide) (Nat.le_of_ble_eq_true rfl) (c11_noteFit hK x0 x5 (x4 - (10 : Int32)) h29 px0 e35) ?_
        obtain ⟨x5_37, ex5_37, E⟩ := lt_E E
        refine s_iinc (i := 5) (n := 1) (y := x5_37) X (by decide +kernel) 2 rfl (by decide) ex5_37 (ls_next (by decide) (Or.inr rfl) (ls_next (by decide) (Or.inr rfl) (ls_here ls_end))) ?_
        refine g_goto (off := -45) (tgt := 63) X (by decide +kernel) (by decide) ?_
        exact ih x5_37 h36  E
set_option maxHeartbeats 4000000 in
set_option maxRecDepth 20000 in
theorem w11_fits_L39 {Γ : CT} {sp : Sp} {K : Ly} {sz n : Nat} {v : Int32} {hf : Hp}  (X : Ok Γ sp prog_13_method_117_code Rc11 6 (some (.int)) 13 (some (.int v)) sz K hf) (hK : LyOk K) (x0 : Nat) (x4 : Int32)  (px0 : K x0 = some (.inl 11))  : ∀ (k : Nat) (x5 : Int32) (h : Hp), f11_fits_L39 K n x0 x4  k x5 h = some (v, hf) → Go Γ (0, 0) 39 [(0, .ref x0), (4, .int x4), (5, .int x5)] [] sz K h := by
  intro k
  induction k with
  | zero => intro x5 h E; cases E
  | succ k ih =>
    intro x5 h E
    unfold f11_fits_L39 at E
    refine g_iload (n := 5) X (by decide +kernel) 2 rfl ?_
    refine g_bipush (n := 40) (x := (40 : Int32)) X (by decide +kernel) (by decide) ?_
    rcases it_E E with ⟨c12, E⟩ | ⟨c12, E⟩
    · refine g_icmp_ge_t (off := 17) (tgt := 60) X (by decide +kernel) (by decide) c12 ?_
      refine g_iconst (n := -1) (x := (-1 : Int32)) X (by decide +kernel) (by decide) ?_
      refine s_istore (i := 5) X (by decide +kernel) (by decide) rfl (ls_next (by decide) (Or.inr rfl) (ls_next (by decide) (Or.inr rfl) (ls_here ls_end))) ?_
      exact w11_fits_L63 X hK x0 x4 px0 n (-1 : Int32) h E
    · refine g_icmp_ge_f (off := 17) (tgt := 60) X (by decide +kernel) (by decide) c12 ?_
      refine g_aload_n (n := 0) X (by decide +kernel) 0 rfl ?_
      refine g_getS X (by decide +kernel) fl11_162 px0 ?_
      refine g_iload (n := 5) X (by decide +kernel) 2 rfl ?_
      refine g_iconst (n := 0) (x := (0 : Int32)) X (by decide +kernel) (by decide) ?_
      obtain ⟨c13, E⟩ := gd_E E
      obtain ⟨h14, eh14, E⟩ := lt_E E
      refine g_iast X (by decide +kernel) (ly hK px0 fl11_162 rfl) c13 eh14 ?_
      obtain ⟨x5_15, ex5_15, E⟩ := lt_E E
      refine s_iinc (i := 5) (n := 1) (y := x5_15) X (by decide +kernel) 2 rfl (by decide) ex5_15 (ls_next (by decide) (Or.inr rfl) (ls_next (by decide) (Or.inr rfl) (ls_here ls_end))) ?_
      refine g_goto (off := -18) (tgt := 39) X (by decide +kernel) (by decide) ?_
      exact ih x5_15 h14  E
set_option maxHeartbeats 4000000 in
set_option maxRecDepth 20000 in
theorem c11_fits {sp : Sp} {K : Ly} {sz n : Nat} (hK : LyOk K) (o : Nat) (a1 : Int32) (a2 : Int32) (a3 : Int32) (a4 : Int32) (h : Hp) (ho : K o = some (.inl 11)) {v : Int32} {hf : Hp} (E : f11_fits K n o a1 a2 a3 a4 h = some (v, hf)) : Con sp y11_fits prog_13_method_117_code 6 (some (.int)) 13 0 0 [.ref o, .int a1, .int a2, .int a3, .int a4] sz K h (some (.int v)) sz K hf := by
  refine Con.of (by decide) (Nat.le_of_ble_eq_true rfl) (fun Γ X _ => ?_)
  show Go Γ (0, 0) 0 [(0, .ref o), (1, .int a1), (2, .int a2), (3, .int a3), (4, .int a4)] [] sz K h
  unfold f11_fits at E
  refine g_aload_n (n := 0) X (by decide +kernel) 0 rfl ?_
  refine g_iconst (n := 0) (x := (0 : Int32)) X (by decide +kernel) (by decide) ?_
  obtain ⟨h1, eh1, E⟩ := lt_E E
  refine g_putI X (by decide +kernel) fp11_169 ho eh1 ?_
  refine g_aload_n (n := 0) X (by decide +kernel) 0 rfl ?_
  refine g_iload_n (n := 3) X (by decide +kernel) 3 rfl ?_
  obtain ⟨y4, h3, e2, E⟩ := bd_E E
  refine g_callV1 (st := []) X [.int a3] (by decide +kernel) ml11_588 ho rfl rfl (by decide) (Nat.le_of_ble_eq_true rfl) (c11_hasLog hK o a3 h1 ho e2) ?_
  rcases it_E E with ⟨c5, E⟩ | ⟨c5, E⟩
  · refine g_if_eq_t (off := 12) (tgt := 22) X (by decide +kernel) (by decide) c5 ?_
    refine g_bipush (n := -2) (x := (-2 : Int32)) X (by decide +kernel) (by decide) ?_
    obtain ⟨rfl, rfl⟩ := rt_E E
    exact g_ireturn X (by decide +kernel)
  · refine g_if_eq_f (off := 12) (tgt := 22) X (by decide +kernel) (by decide) c5 ?_
    refine g_aload_n (n := 0) X (by decide +kernel) 0 rfl ?_
    refine g_iload_n (n := 1) X (by decide +kernel) 1 rfl ?_
    refine g_iload_n (n := 2) X (by decide +kernel) 2 rfl ?_
    obtain ⟨y8, h7, e6, E⟩ := bd_E E
    refine g_callV1 (st := []) X [.int a1, .int a2] (by decide +kernel) ml11_552 ho rfl rfl (by decide) (Nat.le_of_ble_eq_true rfl) (c11_lay hK o a1 a2 h3 ho e6) ?_
    rcases it_E E with ⟨c9, E⟩ | ⟨c9, E⟩
    · refine g_if_ne_f (off := 6) (tgt := 25) X (by decide +kernel) (by decide) (fun z => z c9) ?_
      refine g_bipush (n := -2) (x := (-2 : Int32)) X (by decide +kernel) (by decide) ?_
      obtain ⟨rfl, rfl⟩ := rt_E E
      exact g_ireturn X (by decide +kernel)
    · refine g_if_ne_t (off := 6) (tgt := 25) X (by decide +kernel) (by decide) c9 ?_
      refine g_aload_n (n := 0) X (by decide +kernel) 0 rfl ?_
      refine g_iconst (n := 0) (x := (0 : Int32)) X (by decide +kernel) (by decide) ?_
      obtain ⟨h10, eh10, E⟩ := lt_E E
      refine g_putI X (by decide +kernel) fp11_597 ho eh10 ?_
      refine g_aload_n (n := 0) X (by decide +kernel) 0 rfl ?_
      refine g_bipush (n := -2) (x := (-2 : Int32)) X (by decide +kernel) (by decide) ?_
      obtain ⟨h11, eh11, E⟩ := lt_E E
      refine g_putI X (by decide +kernel) fp11_600 ho eh11 ?_
      refine g_iconst (n := 0) (x := (0 : Int32)) X (by decide +kernel) (by decide) ?_
      refine s_istore (i := 5) X (by decide +kernel) (by decide) rfl (ls_next (by decide) (Or.inr rfl) (ls_next (by decide) (Or.inr rfl) (ls_next (by decide) (Or.inr rfl) (ls_next (by decide) (Or.inr rfl) (ls_next (by decide) (Or.inr rfl) (ls_ins ls_end)))))) ?_
      refine g_sub [0, 4, 5] rfl ?_
      exact w11_fits_L39 X hK o a4 ho n (0 : Int32) h11 E
-- AskedNamesModel.draw
def f11_draw (K : Ly) (n : Nat) (o : Nat) (a1 : Int32) (h : Hp) : Option (Int32 × Hp) :=
    lt (sI h o 85 (((h.1 o 85) * (1103515245 : Int32)) + (12345 : Int32))) fun h1 =>
    gd (decide (¬ a1 = 0)) <|
    some (((((h1.1 o 85).toUInt32 >>> ((16 : Int32).toUInt32 &&& Int32.toUInt32 31)).toInt32) - (((h1.1 o 85).toUInt32 >>> ((16 : Int32).toUInt32 &&& Int32.toUInt32 31)).toInt32) / a1 * a1), h1)
set_option maxHeartbeats 4000000 in
set_option maxRecDepth 20000 in
theorem c11_draw {sp : Sp} {K : Ly} {sz n : Nat} (hK : LyOk K) (o : Nat) (a1 : Int32) (h : Hp) (ho : K o = some (.inl 11)) {v : Int32} {hf : Hp} (E : f11_draw K n o a1 h = some (v, hf)) : Con sp y11_draw prog_13_method_118_code 2 (some (.int)) 1 0 0 [.ref o, .int a1] sz K h (some (.int v)) sz K hf := by
  refine Con.of (by decide) (Nat.le_of_ble_eq_true rfl) (fun Γ X _ => ?_)
  show Go Γ (0, 0) 0 [(0, .ref o), (1, .int a1)] [] sz K h
  unfold f11_draw at E
  refine g_aload_n (n := 0) X (by decide +kernel) 0 rfl ?_
  refine g_aload_n (n := 0) X (by decide +kernel) 0 rfl ?_
  refine g_getI X (by decide +kernel) fl11_612 ho ?_
  refine g_ldc_w (index := 615) (x := (1103515245 : Int32)) X (by decide +kernel) (in_c8 209 rfl rfl) ?_
  refine g_imul X (by decide +kernel) ?_
  refine g_sipush (n := 12345) (x := (12345 : Int32)) X (by decide +kernel) (by decide) ?_
  refine g_iadd X (by decide +kernel) ?_
  obtain ⟨h1, eh1, E⟩ := lt_E E
  refine g_putI X (by decide +kernel) fp11_612 ho eh1 ?_
  refine g_aload_n (n := 0) X (by decide +kernel) 0 rfl ?_
  refine g_getI X (by decide +kernel) fl11_612 ho ?_
  refine g_bipush (n := 16) (x := (16 : Int32)) X (by decide +kernel) (by decide) ?_
  refine g_iushr X (by decide +kernel) ?_
  refine g_iload_n (n := 1) X (by decide +kernel) 1 rfl ?_
  obtain ⟨c2, E⟩ := gd_E E
  refine g_irem X (by decide +kernel) (of_decide_eq_true c2) ?_
  obtain ⟨rfl, rfl⟩ := rt_E E
  exact g_ireturn X (by decide +kernel)
-- AskedNamesModel.drawDeed
def f11_drawDeed_J90 (K : Ly) (n : Nat)  (x1 : Int32) (x3 : Int32) (x4 : Int32) (s0 : Nat) (s1 : Int32) (h : Hp) : Option Hp :=
    bd (f11_does K n s0 s1 x3 x4 x1 h) fun y51 h50 =>
    some h50
def f11_drawDeed_J77 (K : Ly) (n : Nat)  (x0 : Nat) (x1 : Int32) (x2 : Int32) (x3 : Int32) (s0 : Int32) (h : Hp) : Option Hp :=
    f11_drawDeed_J90 K n x1 x3 s0 x0 (if (4 : Int32) ≤ x2 then (1 : Int32) else (0 : Int32)) h
def f11_drawDeed_J75 (K : Ly) (n : Nat)  (x0 : Nat) (x1 : Int32) (x2 : Int32) (x3 : Int32) (x4 : Int32) (h : Hp) : Option Hp :=
    f11_drawDeed_J77 K n x0 x1 x2 x3 x4 h
def f11_drawDeed_J167 (K : Ly) (n : Nat)  (s0 : Nat) (s1 : Int32) (s2 : Int32) (s3 : Int32) (h : Hp) : Option Hp :=
    bd (f11_changes K n s0 s1 s2 s3 h) fun y47 h46 =>
    some h46
def f11_drawDeed (K : Ly) (n : Nat) (o : Nat) (a1 : Int32) (h : Hp) : Option Hp :=
    bd (f11_draw K n o (10 : Int32) h) fun y3 h2 =>
    if (5 : Int32) ≤ y3 then (
    if (9 : Int32) ≤ y3 then (
    bp (f11_links K n o h2) fun y7 =>
    if y7 ≤ 0 then (
    some h2)
    else (
    bp (f11_links K n o h2) fun y10 =>
    bd (f11_draw K n o y10 h2) fun y13 h12 =>
    bp (f11_linkAt K n o y13 (0 : Int32) h12) fun y15 =>
    bp (f11_linkAt K n o y13 (1 : Int32) h12) fun y17 =>
    f11_drawDeed_J167 K n o y15 y17 (if (f11_has (h12.1 o 26) y13) = 0 then (1 : Int32) else (0 : Int32)) h12))
    else (
    bd (f11_draw K n o (5 : Int32) h2) fun y21 h20 =>
    bd (f11_waits K n o ((1 : Int32) + y21) h20) fun y24 h23 =>
    some h23))
    else (
    bp (f11_serves K n o h2) fun y26 =>
    if y26 ≤ 0 then (
    some h2)
    else (
    bd (f11_draw K n o (h2.1 o 23) h2) fun y30 h29 =>
    bp (f11_serves K n o h29) fun y32 =>
    bd (f11_draw K n o y32 h29) fun y35 h34 =>
    bp (f11_serveAt K n o y35 (1 : Int32) h34) fun y37 =>
    bd (f11_draw K n o (3 : Int32) h34) fun y40 h39 =>
    if y40 ≤ 0 then (
    f11_drawDeed_J75 K n o a1 y3 y30 y37 h39)
    else (
    bp (f11_lettersOf K n y37 h39) fun y43 =>
    f11_drawDeed_J77 K n o a1 y3 y30 (if (4 : Int32) ≤ y43 then y37 else (((27 : Int32) * y37) + y40)) h39)))
set_option maxHeartbeats 4000000 in
set_option maxRecDepth 20000 in
theorem w11_drawDeed_J90 {Γ : CT} {sp : Sp} {K : Ly} {sz n : Nat} {hf : Hp}   (X : Ok Γ sp prog_13_method_119_code Rc11 6 none 12 none sz K hf) (hK : LyOk K) (x1 : Int32) (x3 : Int32) (x4 : Int32) (s0 : Nat) (s1 : Int32) (h : Hp)  (ps0 : K s0 = some (.inl 11)) (E : f11_drawDeed_J90 K n x1 x3 x4 s0 s1 h = some hf) : Go Γ (0, 0) 90 [(1, .int x1), (3, .int x3), (4, .int x4)] [.int s1, .ref s0] sz K h := by
  unfold f11_drawDeed_J90 at E
  refine g_iload_n (n := 3) X (by decide +kernel) 1 rfl ?_
  refine g_iload (n := 4) X (by decide +kernel) 2 rfl ?_
  refine g_iload_n (n := 1) X (by decide +kernel) 0 rfl ?_
  obtain ⟨y51, h50, e49, E⟩ := bd_E E
  refine g_callV1 (st := []) X [.int s1, .int x3, .int x4, .int x1] (by decide +kernel) ml11_543 ps0 rfl rfl (by decide) (Nat.le_of_ble_eq_true rfl) (c11_does hK s0 s1 x3 x4 x1 h ps0 e49) ?_
  refine g_pop X (by decide +kernel) rfl ?_
  refine g_goto (off := 73) (tgt := 171) X (by decide +kernel) (by decide) ?_
  obtain rfl := Option.some.inj E
  exact g_return X (by decide +kernel)
set_option maxHeartbeats 4000000 in
set_option maxRecDepth 20000 in
theorem w11_drawDeed_J77 {Γ : CT} {sp : Sp} {K : Ly} {sz n : Nat} {hf : Hp}   (X : Ok Γ sp prog_13_method_119_code Rc11 6 none 12 none sz K hf) (hK : LyOk K) (x0 : Nat) (x1 : Int32) (x2 : Int32) (x3 : Int32) (s0 : Int32) (h : Hp)  (px0 : K x0 = some (.inl 11)) (E : f11_drawDeed_J77 K n x0 x1 x2 x3 s0 h = some hf) : Go Γ (0, 0) 77 [(0, .ref x0), (1, .int x1), (2, .int x2), (3, .int x3)] [.int s0] sz K h := by
  unfold f11_drawDeed_J77 at E
  refine s_istore (i := 4) X (by decide +kernel) (by decide) rfl (ls_next (by decide) (Or.inr rfl) (ls_next (by decide) (Or.inr rfl) (ls_next (by decide) (Or.inr rfl) (ls_next (by decide) (Or.inr rfl) (ls_ins ls_end))))) ?_
  refine g_aload_n (n := 0) X (by decide +kernel) 0 rfl ?_
  refine g_iload_n (n := 2) X (by decide +kernel) 2 rfl ?_
  refine g_iconst (n := 4) (x := (4 : Int32)) X (by decide +kernel) (by decide) ?_
  have hJ : Go Γ (0, 0) 90 [(1, .int x1), (3, .int x3), (4, .int s0)] [.int (if (4 : Int32) ≤ x2 then (1 : Int32) else (0 : Int32)), .ref x0] sz K h := by
    exact w11_drawDeed_J90 X hK x1 x3 s0 x0 (if (4 : Int32) ≤ x2 then (1 : Int32) else (0 : Int32)) h px0 E
  clear E
  by_cases c48 : (4 : Int32) ≤ x2
  · rw [if_pos c48] at hJ
    refine g_icmp_ge_t (off := 7) (tgt := 89) X (by decide +kernel) (by decide) c48 ?_
    refine g_iconst (n := 1) (x := (1 : Int32)) X (by decide +kernel) (by decide) ?_
    refine g_sub [1, 3, 4] rfl ?_
    exact hJ
  · rw [if_neg c48] at hJ
    refine g_icmp_ge_f (off := 7) (tgt := 89) X (by decide +kernel) (by decide) c48 ?_
    refine g_iconst (n := 0) (x := (0 : Int32)) X (by decide +kernel) (by decide) ?_
    refine g_goto (off := 4) (tgt := 90) X (by decide +kernel) (by decide) ?_
    refine g_sub [1, 3, 4] rfl ?_
    exact hJ
set_option maxHeartbeats 4000000 in
set_option maxRecDepth 20000 in
theorem w11_drawDeed_J75 {Γ : CT} {sp : Sp} {K : Ly} {sz n : Nat} {hf : Hp}   (X : Ok Γ sp prog_13_method_119_code Rc11 6 none 12 none sz K hf) (hK : LyOk K) (x0 : Nat) (x1 : Int32) (x2 : Int32) (x3 : Int32) (x4 : Int32) (h : Hp)  (px0 : K x0 = some (.inl 11)) (E : f11_drawDeed_J75 K n x0 x1 x2 x3 x4 h = some hf) : Go Γ (0, 0) 75 [(0, .ref x0), (1, .int x1), (2, .int x2), (3, .int x3), (4, .int x4)] [] sz K h := by
  unfold f11_drawDeed_J75 at E
  refine g_iload (n := 4) X (by decide +kernel) 4 rfl ?_
  refine g_sub [0, 1, 2, 3] rfl ?_
  exact w11_drawDeed_J77 X hK x0 x1 x2 x3 x4 h px0 E
set_option maxHeartbeats 4000000 in
set_option maxRecDepth 20000 in
theorem w11_drawDeed_J167 {Γ : CT} {sp : Sp} {K : Ly} {sz n : Nat} {hf : Hp}   (X : Ok Γ sp prog_13_method_119_code Rc11 6 none 12 none sz K hf) (hK : LyOk K) (s0 : Nat) (s1 : Int32) (s2 : Int32) (s3 : Int32) (h : Hp)  (ps0 : K s0 = some (.inl 11)) (E : f11_drawDeed_J167 K n s0 s1 s2 s3 h = some hf) : Go Γ (0, 0) 167 [] [.int s3, .int s2, .int s1, .ref s0] sz K h := by
  unfold f11_drawDeed_J167 at E
  obtain ⟨y47, h46, e45, E⟩ := bd_E E
  refine g_callV1 (st := []) X [.int s1, .int s2, .int s3] (by decide +kernel) ml11_524 ps0 rfl rfl (by decide) (Nat.le_of_ble_eq_true rfl) (c11_changes hK s0 s1 s2 s3 h ps0 e45) ?_
  refine g_pop X (by decide +kernel) rfl ?_
  obtain rfl := Option.some.inj E
  exact g_return X (by decide +kernel)
set_option maxHeartbeats 4000000 in
set_option maxRecDepth 20000 in
theorem c11_drawDeed {sp : Sp} {K : Ly} {sz n : Nat} (hK : LyOk K) (o : Nat) (a1 : Int32) (h : Hp) (ho : K o = some (.inl 11)) {hf : Hp} (E : f11_drawDeed K n o a1 h = some hf) : Con sp y11_drawDeed prog_13_method_119_code 6 none 12 0 0 [.ref o, .int a1] sz K h none sz K hf := by
  refine Con.of (by decide) (Nat.le_of_ble_eq_true rfl) (fun Γ X _ => ?_)
  show Go Γ (0, 0) 0 [(0, .ref o), (1, .int a1)] [] sz K h
  unfold f11_drawDeed at E
  refine g_aload_n (n := 0) X (by decide +kernel) 0 rfl ?_
  refine g_bipush (n := 10) (x := (10 : Int32)) X (by decide +kernel) (by decide) ?_
  obtain ⟨y3, h2, e1, E⟩ := bd_E E
  refine g_callV1 (st := []) X [.int (10 : Int32)] (by decide +kernel) ml11_616 ho rfl rfl (by decide) (Nat.le_of_ble_eq_true rfl) (c11_draw hK o (10 : Int32) h ho e1) ?_
  refine s_istore_n (n := 2) (i := 2) X (by decide +kernel) rfl (by decide) rfl (ls_next (by decide) (Or.inr rfl) (ls_next (by decide) (Or.inr rfl) (ls_ins ls_end))) ?_
  refine g_iload_n (n := 2) X (by decide +kernel) 2 rfl ?_
  refine g_iconst (n := 5) (x := (5 : Int32)) X (by decide +kernel) (by decide) ?_
  rcases it_E E with ⟨c4, E⟩ | ⟨c4, E⟩
  · refine g_icmp_ge_t (off := 92) (tgt := 101) X (by decide +kernel) (by decide) c4 ?_
    refine g_iload_n (n := 2) X (by decide +kernel) 2 rfl ?_
    refine g_bipush (n := 9) (x := (9 : Int32)) X (by decide +kernel) (by decide) ?_
    rcases it_E E with ⟨c5, E⟩ | ⟨c5, E⟩
    · refine g_icmp_ge_t (off := 18) (tgt := 122) X (by decide +kernel) (by decide) c5 ?_
      refine g_aload_n (n := 0) X (by decide +kernel) 0 rfl ?_
      obtain ⟨y7, e6, E⟩ := bp_E E
      refine g_callV1 (st := []) X [] (by decide +kernel) ml11_345 ho rfl rfl (by decide) (Nat.le_of_ble_eq_true rfl) (c11_links hK o h2 ho e6) ?_
      rcases it_E E with ⟨c8, E⟩ | ⟨c8, E⟩
      · refine g_if_le_t (off := 45) (tgt := 171) X (by decide +kernel) (by decide) c8 ?_
        obtain rfl := Option.some.inj E
        exact g_return X (by decide +kernel)
      · refine g_if_le_f (off := 45) (tgt := 171) X (by decide +kernel) (by decide) c8 ?_
        refine g_aload_n (n := 0) X (by decide +kernel) 0 rfl ?_
        refine g_aload_n (n := 0) X (by decide +kernel) 0 rfl ?_
        obtain ⟨y10, e9, E⟩ := bp_E E
        refine g_callV1 (st := [.ref o]) X [] (by decide +kernel) ml11_345 ho rfl rfl (by decide) (Nat.le_of_ble_eq_true rfl) (c11_links hK o h2 ho e9) ?_
        obtain ⟨y13, h12, e11, E⟩ := bd_E E
        refine g_callV1 (st := []) X [.int y10] (by decide +kernel) ml11_616 ho rfl rfl (by decide) (Nat.le_of_ble_eq_true rfl) (c11_draw hK o y10 h2 ho e11) ?_
        refine s_istore_n (n := 3) (i := 3) X (by decide +kernel) rfl (by decide) rfl (ls_next (by decide) (Or.inr rfl) (ls_next (by decide) (Or.inr rfl) (ls_next (by decide) (Or.inr rfl) (ls_ins ls_end)))) ?_
        refine g_aload_n (n := 0) X (by decide +kernel) 0 rfl ?_
        refine g_aload_n (n := 0) X (by decide +kernel) 0 rfl ?_
        refine g_iload_n (n := 3) X (by decide +kernel) 3 rfl ?_
        refine g_iconst (n := 0) (x := (0 : Int32)) X (by decide +kernel) (by decide) ?_
        obtain ⟨y15, e14, E⟩ := bp_E E
        refine g_callV1 (st := [.ref o]) X [.int y13, .int (0 : Int32)] (by decide +kernel) ml11_348 ho rfl rfl (by decide) (Nat.le_of_ble_eq_true rfl) (c11_linkAt hK o y13 (0 : Int32) h12 ho e14) ?_
        refine g_aload_n (n := 0) X (by decide +kernel) 0 rfl ?_
        refine g_iload_n (n := 3) X (by decide +kernel) 3 rfl ?_
        refine g_iconst (n := 1) (x := (1 : Int32)) X (by decide +kernel) (by decide) ?_
        obtain ⟨y17, e16, E⟩ := bp_E E
        refine g_callV1 (st := [.int y15, .ref o]) X [.int y13, .int (1 : Int32)] (by decide +kernel) ml11_348 ho rfl rfl (by decide) (Nat.le_of_ble_eq_true rfl) (c11_linkAt hK o y13 (1 : Int32) h12 ho e16) ?_
        refine g_aload_n (n := 0) X (by decide +kernel) 0 rfl ?_
        refine g_getI X (by decide +kernel) fl11_351 ho ?_
        refine g_iload_n (n := 3) X (by decide +kernel) 3 rfl ?_
        refine g_callS1 (st := [.int y17, .int y15, .ref o]) X [.int (h12.1 o 26), .int y13] (by decide +kernel) ml11_173 (by decide) (Nat.le_of_ble_eq_true rfl) (c11_has hK (h12.1 o 26) y13 h12 ) ?_
        have hJ : Go Γ (0, 0) 167 [] [.int (if (f11_has (h12.1 o 26) y13) = 0 then (1 : Int32) else (0 : Int32)), .int y17, .int y15, .ref o] sz K h12 := by
          exact w11_drawDeed_J167 X hK o y15 y17 (if (f11_has (h12.1 o 26) y13) = 0 then (1 : Int32) else (0 : Int32)) h12 ho E
        clear E
        by_cases c18 : (f11_has (h12.1 o 26) y13) = 0
        · rw [if_pos c18] at hJ
          refine g_if_ne_f (off := 7) (tgt := 166) X (by decide +kernel) (by decide) (fun z => z c18) ?_
          refine g_iconst (n := 1) (x := (1 : Int32)) X (by decide +kernel) (by decide) ?_
          refine g_goto (off := 4) (tgt := 167) X (by decide +kernel) (by decide) ?_
          refine g_sub [] rfl ?_
          exact hJ
        · rw [if_neg c18] at hJ
          refine g_if_ne_t (off := 7) (tgt := 166) X (by decide +kernel) (by decide) c18 ?_
          refine g_iconst (n := 0) (x := (0 : Int32)) X (by decide +kernel) (by decide) ?_
          refine g_sub [] rfl ?_
          exact hJ
    · refine g_icmp_ge_f (off := 18) (tgt := 122) X (by decide +kernel) (by decide) c5 ?_
      refine g_aload_n (n := 0) X (by decide +kernel) 0 rfl ?_
      refine g_iconst (n := 1) (x := (1 : Int32)) X (by decide +kernel) (by decide) ?_
      refine g_aload_n (n := 0) X (by decide +kernel) 0 rfl ?_
      refine g_iconst (n := 5) (x := (5 : Int32)) X (by decide +kernel) (by decide) ?_
      obtain ⟨y21, h20, e19, E⟩ := bd_E E
      refine g_callV1 (st := [.int (1 : Int32), .ref o]) X [.int (5 : Int32)] (by decide +kernel) ml11_616 ho rfl rfl (by decide) (Nat.le_of_ble_eq_true rfl) (c11_draw hK o (5 : Int32) h2 ho e19) ?_
      refine g_iadd X (by decide +kernel) ?_
      obtain ⟨y24, h23, e22, E⟩ := bd_E E
      refine g_callV1 (st := []) X [.int ((1 : Int32) + y21)] (by decide +kernel) ml11_521 ho rfl rfl (by decide) (Nat.le_of_ble_eq_true rfl) (c11_waits hK o ((1 : Int32) + y21) h20 ho e22) ?_
      refine g_pop X (by decide +kernel) rfl ?_
      refine g_goto (off := 52) (tgt := 171) X (by decide +kernel) (by decide) ?_
      obtain rfl := Option.some.inj E
      exact g_return X (by decide +kernel)
  · refine g_icmp_ge_f (off := 92) (tgt := 101) X (by decide +kernel) (by decide) c4 ?_
    refine g_aload_n (n := 0) X (by decide +kernel) 0 rfl ?_
    obtain ⟨y26, e25, E⟩ := bp_E E
    refine g_callV1 (st := []) X [] (by decide +kernel) ml11_366 ho rfl rfl (by decide) (Nat.le_of_ble_eq_true rfl) (c11_serves hK o h2 ho e25) ?_
    rcases it_E E with ⟨c27, E⟩ | ⟨c27, E⟩
    · refine g_if_le_t (off := 155) (tgt := 171) X (by decide +kernel) (by decide) c27 ?_
      obtain rfl := Option.some.inj E
      exact g_return X (by decide +kernel)
    · refine g_if_le_f (off := 155) (tgt := 171) X (by decide +kernel) (by decide) c27 ?_
      refine g_aload_n (n := 0) X (by decide +kernel) 0 rfl ?_
      refine g_aload_n (n := 0) X (by decide +kernel) 0 rfl ?_
      refine g_getI X (by decide +kernel) fl11_339 ho ?_
      obtain ⟨y30, h29, e28, E⟩ := bd_E E
      refine g_callV1 (st := []) X [.int (h2.1 o 23)] (by decide +kernel) ml11_616 ho rfl rfl (by decide) (Nat.le_of_ble_eq_true rfl) (c11_draw hK o (h2.1 o 23) h2 ho e28) ?_
      refine s_istore_n (n := 3) (i := 3) X (by decide +kernel) rfl (by decide) rfl (ls_next (by decide) (Or.inr rfl) (ls_next (by decide) (Or.inr rfl) (ls_next (by decide) (Or.inr rfl) (ls_ins ls_end)))) ?_
      refine g_aload_n (n := 0) X (by decide +kernel) 0 rfl ?_
      refine g_aload_n (n := 0) X (by decide +kernel) 0 rfl ?_
      refine g_aload_n (n := 0) X (by decide +kernel) 0 rfl ?_
      obtain ⟨y32, e31, E⟩ := bp_E E
      refine g_callV1 (st := [.ref o, .ref o]) X [] (by decide +kernel) ml11_366 ho rfl rfl (by decide) (Nat.le_of_ble_eq_true rfl) (c11_serves hK o h29 ho e31) ?_
      obtain ⟨y35, h34, e33, E⟩ := bd_E E
      refine g_callV1 (st := [.ref o]) X [.int y32] (by decide +kernel) ml11_616 ho rfl rfl (by decide) (Nat.le_of_ble_eq_true rfl) (c11_draw hK o y32 h29 ho e33) ?_
      refine g_iconst (n := 1) (x := (1 : Int32)) X (by decide +kernel) (by decide) ?_
      obtain ⟨y37, e36, E⟩ := bp_E E
      refine g_callV1 (st := []) X [.int y35, .int (1 : Int32)] (by decide +kernel) ml11_369 ho rfl rfl (by decide) (Nat.le_of_ble_eq_true rfl) (c11_serveAt hK o y35 (1 : Int32) h34 ho e36) ?_
      refine s_istore (i := 4) X (by decide +kernel) (by decide) rfl (ls_next (by decide) (Or.inr rfl) (ls_next (by decide) (Or.inr rfl) (ls_next (by decide) (Or.inr rfl) (ls_next (by decide) (Or.inr rfl) (ls_ins ls_end))))) ?_
      refine g_aload_n (n := 0) X (by decide +kernel) 0 rfl ?_
      refine g_iconst (n := 3) (x := (3 : Int32)) X (by decide +kernel) (by decide) ?_
      obtain ⟨y40, h39, e38, E⟩ := bd_E E
      refine g_callV1 (st := []) X [.int (3 : Int32)] (by decide +kernel) ml11_616 ho rfl rfl (by decide) (Nat.le_of_ble_eq_true rfl) (c11_draw hK o (3 : Int32) h34 ho e38) ?_
      refine s_istore (i := 5) X (by decide +kernel) (by decide) rfl (ls_next (by decide) (Or.inr rfl) (ls_next (by decide) (Or.inr rfl) (ls_next (by decide) (Or.inr rfl) (ls_next (by decide) (Or.inr rfl) (ls_next (by decide) (Or.inr rfl) (ls_ins ls_end)))))) ?_
      refine g_iload (n := 5) X (by decide +kernel) 5 rfl ?_
      rcases it_E E with ⟨c41, E⟩ | ⟨c41, E⟩
      · refine g_if_le_t (off := 23) (tgt := 75) X (by decide +kernel) (by decide) c41 ?_
        refine g_sub [0, 1, 2, 3, 4] rfl ?_
        exact w11_drawDeed_J75 X hK o a1 y3 y30 y37 h39 ho E
      · refine g_if_le_f (off := 23) (tgt := 75) X (by decide +kernel) (by decide) c41 ?_
        refine g_iload (n := 4) X (by decide +kernel) 4 rfl ?_
        obtain ⟨y43, e42, E⟩ := bp_E E
        refine g_callS1 (st := []) X [.int y37] (by decide +kernel) ml11_354 (by decide) (Nat.le_of_ble_eq_true rfl) (c11_lettersOf hK y37 h39  e42) ?_
        refine g_iconst (n := 4) (x := (4 : Int32)) X (by decide +kernel) (by decide) ?_
        have hJ : Go Γ (0, 0) 77 [(0, .ref o), (1, .int a1), (2, .int y3), (3, .int y30)] [.int (if (4 : Int32) ≤ y43 then y37 else (((27 : Int32) * y37) + y40))] sz K h39 := by
          exact w11_drawDeed_J77 X hK o a1 y3 y30 (if (4 : Int32) ≤ y43 then y37 else (((27 : Int32) * y37) + y40)) h39 ho E
        clear E
        by_cases c44 : (4 : Int32) ≤ y43
        · rw [if_pos c44] at hJ
          refine g_icmp_ge_t (off := 14) (tgt := 75) X (by decide +kernel) (by decide) c44 ?_
          refine g_iload (n := 4) X (by decide +kernel) 4 rfl ?_
          refine g_sub [0, 1, 2, 3] rfl ?_
          exact hJ
        · rw [if_neg c44] at hJ
          refine g_icmp_ge_f (off := 14) (tgt := 75) X (by decide +kernel) (by decide) c44 ?_
          refine g_bipush (n := 27) (x := (27 : Int32)) X (by decide +kernel) (by decide) ?_
          refine g_iload (n := 4) X (by decide +kernel) 4 rfl ?_
          refine g_imul X (by decide +kernel) ?_
          refine g_iload (n := 5) X (by decide +kernel) 5 rfl ?_
          refine g_iadd X (by decide +kernel) ?_
          refine g_goto (off := 5) (tgt := 77) X (by decide +kernel) (by decide) ?_
          refine g_sub [0, 1, 2, 3] rfl ?_
          exact hJ
-- AskedNamesModel.drawn
def f11_drawn_L39 (K : Ly) (n : Nat) (x0 : Nat) (x3 : Int32) (x4 : Int32)   : Nat → Int32 → Hp → Option (Int32 × Hp)
  | 0, _, _ => none
  | k + 1, x5, h =>
    if x3 ≤ x5 then (
    bp (f11_ofState K n x0 x4 h) fun y12 =>
    some (y12, h))
    else (
    bp (f11_drawDeed K n x0 x5 h) fun h14 =>
    lt (x5 + (1 : Int32)) fun x5_15 =>
    f11_drawn_L39 K n x0 x3 x4  k x5_15 h14)
def f11_drawn (K : Ly) (n : Nat) (o : Nat) (a1 : Int32) (a2 : Int32) (a3 : Int32) (a4 : Int32) (h : Hp) : Option (Int32 × Hp) :=
    lt (sI h o 0 (0 : Int32)) fun h1 =>
    if (f11_in a3 (0 : Int32) (60 : Int32)) = 0 then (
    some ((-2 : Int32), h1))
    else (
    bd (f11_hasNet K n o a1 h1) fun y5 h4 =>
    if y5 = 0 then (
    some ((-2 : Int32), h4))
    else (
    bp (f11_begin K n o (-1 : Int32) h4) fun h8 =>
    lt (sI h8 o 85 a2) fun h9 =>
    f11_drawn_L39 K n o a3 a4 n (0 : Int32) h9))
set_option maxHeartbeats 4000000 in
set_option maxRecDepth 20000 in
theorem w11_drawn_L39 {Γ : CT} {sp : Sp} {K : Ly} {sz n : Nat} {v : Int32} {hf : Hp}  (X : Ok Γ sp prog_13_method_120_code Rc11 6 (some (.int)) 13 (some (.int v)) sz K hf) (hK : LyOk K) (x0 : Nat) (x3 : Int32) (x4 : Int32)  (px0 : K x0 = some (.inl 11))  : ∀ (k : Nat) (x5 : Int32) (h : Hp), f11_drawn_L39 K n x0 x3 x4  k x5 h = some (v, hf) → Go Γ (0, 0) 39 [(0, .ref x0), (3, .int x3), (4, .int x4), (5, .int x5)] [] sz K h := by
  intro k
  induction k with
  | zero => intro x5 h E; cases E
  | succ k ih =>
    intro x5 h E
    unfold f11_drawn_L39 at E
    refine g_iload (n := 5) X (by decide +kernel) 3 rfl ?_
    refine g_iload_n (n := 3) X (by decide +kernel) 1 rfl ?_
    rcases it_E E with ⟨c10, E⟩ | ⟨c10, E⟩
    · refine g_icmp_ge_t (off := 15) (tgt := 57) X (by decide +kernel) (by decide) c10 ?_
      refine g_aload_n (n := 0) X (by decide +kernel) 0 rfl ?_
      refine g_iload (n := 4) X (by decide +kernel) 2 rfl ?_
      obtain ⟨y12, e11, E⟩ := bp_E E
      refine g_callV1 (st := []) X [.int x4] (by decide +kernel) ml11_567 px0 rfl rfl (by decide) (Nat.le_of_ble_eq_true rfl) (c11_ofState hK x0 x4 h px0 e11) ?_
      obtain ⟨rfl, rfl⟩ := rt_E E
      exact g_ireturn X (by decide +kernel)
    · refine g_icmp_ge_f (off := 15) (tgt := 57) X (by decide +kernel) (by decide) c10 ?_
      refine g_aload_n (n := 0) X (by decide +kernel) 0 rfl ?_
      refine g_iload (n := 5) X (by decide +kernel) 3 rfl ?_
      obtain ⟨h14, e13, E⟩ := bp_E E
      refine g_callV0 (st := []) X [.int x5] (by decide +kernel) ml11_619 px0 rfl rfl (by decide) (Nat.le_of_ble_eq_true rfl) (c11_drawDeed hK x0 x5 h px0 e13) ?_
      obtain ⟨x5_15, ex5_15, E⟩ := lt_E E
      refine s_iinc (i := 5) (n := 1) (y := x5_15) X (by decide +kernel) 3 rfl (by decide) ex5_15 (ls_next (by decide) (Or.inr rfl) (ls_next (by decide) (Or.inr rfl) (ls_next (by decide) (Or.inr rfl) (ls_here ls_end)))) ?_
      refine g_goto (off := -15) (tgt := 39) X (by decide +kernel) (by decide) ?_
      exact ih x5_15 h14  E
set_option maxHeartbeats 4000000 in
set_option maxRecDepth 20000 in
theorem c11_drawn {sp : Sp} {K : Ly} {sz n : Nat} (hK : LyOk K) (o : Nat) (a1 : Int32) (a2 : Int32) (a3 : Int32) (a4 : Int32) (h : Hp) (ho : K o = some (.inl 11)) {v : Int32} {hf : Hp} (E : f11_drawn K n o a1 a2 a3 a4 h = some (v, hf)) : Con sp y11_drawn prog_13_method_120_code 6 (some (.int)) 13 0 0 [.ref o, .int a1, .int a2, .int a3, .int a4] sz K h (some (.int v)) sz K hf := by
  refine Con.of (by decide) (Nat.le_of_ble_eq_true rfl) (fun Γ X _ => ?_)
  show Go Γ (0, 0) 0 [(0, .ref o), (1, .int a1), (2, .int a2), (3, .int a3), (4, .int a4)] [] sz K h
  unfold f11_drawn at E
  refine g_aload_n (n := 0) X (by decide +kernel) 0 rfl ?_
  refine g_iconst (n := 0) (x := (0 : Int32)) X (by decide +kernel) (by decide) ?_
  obtain ⟨h1, eh1, E⟩ := lt_E E
  refine g_putI X (by decide +kernel) fp11_169 ho eh1 ?_
  refine g_iload_n (n := 3) X (by decide +kernel) 3 rfl ?_
  refine g_iconst (n := 0) (x := (0 : Int32)) X (by decide +kernel) (by decide) ?_
  refine g_bipush (n := 60) (x := (60 : Int32)) X (by decide +kernel) (by decide) ?_
  refine g_callS1 (st := []) X [.int a3, .int (0 : Int32), .int (60 : Int32)] (by decide +kernel) ml11_181 (by decide) (Nat.le_of_ble_eq_true rfl) (c11_in hK a3 (0 : Int32) (60 : Int32) h1 ) ?_
  rcases it_E E with ⟨c2, E⟩ | ⟨c2, E⟩
  · refine g_if_eq_t (off := 11) (tgt := 23) X (by decide +kernel) (by decide) c2 ?_
    refine g_bipush (n := -2) (x := (-2 : Int32)) X (by decide +kernel) (by decide) ?_
    obtain ⟨rfl, rfl⟩ := rt_E E
    exact g_ireturn X (by decide +kernel)
  · refine g_if_eq_f (off := 11) (tgt := 23) X (by decide +kernel) (by decide) c2 ?_
    refine g_aload_n (n := 0) X (by decide +kernel) 0 rfl ?_
    refine g_iload_n (n := 1) X (by decide +kernel) 1 rfl ?_
    obtain ⟨y5, h4, e3, E⟩ := bd_E E
    refine g_callV1 (st := []) X [.int a1] (by decide +kernel) ml11_372 ho rfl rfl (by decide) (Nat.le_of_ble_eq_true rfl) (c11_hasNet hK o a1 h1 ho e3) ?_
    rcases it_E E with ⟨c6, E⟩ | ⟨c6, E⟩
    · refine g_if_ne_f (off := 6) (tgt := 26) X (by decide +kernel) (by decide) (fun z => z c6) ?_
      refine g_bipush (n := -2) (x := (-2 : Int32)) X (by decide +kernel) (by decide) ?_
      obtain ⟨rfl, rfl⟩ := rt_E E
      exact g_ireturn X (by decide +kernel)
    · refine g_if_ne_t (off := 6) (tgt := 26) X (by decide +kernel) (by decide) c6 ?_
      refine g_aload_n (n := 0) X (by decide +kernel) 0 rfl ?_
      refine g_iconst (n := -1) (x := (-1 : Int32)) X (by decide +kernel) (by decide) ?_
      obtain ⟨h8, e7, E⟩ := bp_E E
      refine g_callV0 (st := []) X [.int (-1 : Int32)] (by decide +kernel) ml11_549 ho rfl rfl (by decide) (Nat.le_of_ble_eq_true rfl) (c11_begin hK o (-1 : Int32) h4 ho e7) ?_
      refine g_aload_n (n := 0) X (by decide +kernel) 0 rfl ?_
      refine g_iload_n (n := 2) X (by decide +kernel) 2 rfl ?_
      obtain ⟨h9, eh9, E⟩ := lt_E E
      refine g_putI X (by decide +kernel) fp11_612 ho eh9 ?_
      refine g_iconst (n := 0) (x := (0 : Int32)) X (by decide +kernel) (by decide) ?_
      refine s_istore (i := 5) X (by decide +kernel) (by decide) rfl (ls_next (by decide) (Or.inr rfl) (ls_next (by decide) (Or.inr rfl) (ls_next (by decide) (Or.inr rfl) (ls_next (by decide) (Or.inr rfl) (ls_next (by decide) (Or.inr rfl) (ls_ins ls_end)))))) ?_
      refine g_sub [0, 3, 4, 5] rfl ?_
      exact w11_drawn_L39 X hK o a3 a4 ho n (0 : Int32) h9 E
-- AskedNamesModel.common
def f11_common_L4 (K : Ly) (n : Nat)  (h : Hp)  : Nat → Int32 → Int32 → Option (Int32)
  | 0, _, _ => none
  | k + 1, x2, x3 =>
    if x3 = 0 then (
    some x2)
    else (
    gd (decide (¬ x3 = 0)) <|
    lt (x2 - x2 / x3 * x3) fun x4_3 =>
    f11_common_L4 K n h  k x3 x4_3)
def f11_common (K : Ly) (n : Nat) (a0 : Int32) (a1 : Int32) (h : Hp) : Option (Int32) :=
    f11_common_L4 K n h n a0 a1
set_option maxHeartbeats 4000000 in
set_option maxRecDepth 20000 in
theorem w11_common_L4 {Γ : CT} {sp : Sp} {K : Ly} {sz n : Nat} {v : Int32} {h : Hp}  (X : Ok Γ sp prog_13_method_121_code Rc11 5 (some (.int)) 1 (some (.int v)) sz K h) (hK : LyOk K)     : ∀ (k : Nat) (x2 : Int32) (x3 : Int32), f11_common_L4 K n h  k x2 x3 = some v → Go Γ (0, 0) 4 [(2, .int x2), (3, .int x3)] [] sz K h := by
  intro k
  induction k with
  | zero => intro x2 x3 E; cases E
  | succ k ih =>
    intro x2 x3 E
    unfold f11_common_L4 at E
    refine g_iload_n (n := 3) X (by decide +kernel) 1 rfl ?_
    rcases it_E E with ⟨c1, E⟩ | ⟨c1, E⟩
    · refine g_if_eq_t (off := 16) (tgt := 21) X (by decide +kernel) (by decide) c1 ?_
      refine g_iload_n (n := 2) X (by decide +kernel) 0 rfl ?_
      obtain rfl := Option.some.inj E
      exact g_ireturn X (by decide +kernel)
    · refine g_if_eq_f (off := 16) (tgt := 21) X (by decide +kernel) (by decide) c1 ?_
      refine g_iload_n (n := 2) X (by decide +kernel) 0 rfl ?_
      refine g_iload_n (n := 3) X (by decide +kernel) 1 rfl ?_
      obtain ⟨c2, E⟩ := gd_E E
      refine g_irem X (by decide +kernel) (of_decide_eq_true c2) ?_
      obtain ⟨x4_3, ex4_3, E⟩ := lt_E E
      refine s_istore (i := 4) X (by decide +kernel) (by decide) ex4_3 (ls_next (by decide) (Or.inr rfl) (ls_next (by decide) (Or.inr rfl) (ls_ins ls_end))) ?_
      refine g_iload_n (n := 3) X (by decide +kernel) 1 rfl ?_
      refine s_istore_n (n := 2) (i := 2) X (by decide +kernel) rfl (by decide) rfl (ls_here (ls_next (by decide) (Or.inr rfl) (ls_next (by decide) (Or.inr rfl) ls_end))) ?_
      refine g_iload (n := 4) X (by decide +kernel) 2 rfl ?_
      refine s_istore_n (n := 3) (i := 3) X (by decide +kernel) rfl (by decide) rfl (ls_next (by decide) (Or.inr rfl) (ls_here (ls_next (by decide) (Or.inr rfl) ls_end))) ?_
      refine g_goto (off := -14) (tgt := 4) X (by decide +kernel) (by decide) ?_
      refine g_sub [0, 1] rfl ?_
      exact ih x3 x4_3  E
set_option maxHeartbeats 4000000 in
set_option maxRecDepth 20000 in
theorem c11_common {sp : Sp} {K : Ly} {sz n : Nat} (hK : LyOk K) (a0 : Int32) (a1 : Int32) (h : Hp)  {v : Int32} (E : f11_common K n a0 a1 h = some v) : Con sp y11_common prog_13_method_121_code 5 (some (.int)) 1 0 0 [.int a0, .int a1] sz K h (some (.int v)) sz K h := by
  refine Con.of (by decide) (Nat.le_of_ble_eq_true rfl) (fun Γ X _ => ?_)
  show Go Γ (0, 0) 0 [(0, .int a0), (1, .int a1)] [] sz K h
  unfold f11_common at E
  refine g_iload_n (n := 0) X (by decide +kernel) 0 rfl ?_
  refine s_istore_n (n := 2) (i := 2) X (by decide +kernel) rfl (by decide) rfl (ls_next (by decide) (Or.inr rfl) (ls_next (by decide) (Or.inr rfl) (ls_ins ls_end))) ?_
  refine g_iload_n (n := 1) X (by decide +kernel) 1 rfl ?_
  refine s_istore_n (n := 3) (i := 3) X (by decide +kernel) rfl (by decide) rfl (ls_next (by decide) (Or.inr rfl) (ls_next (by decide) (Or.inr rfl) (ls_next (by decide) (Or.inr rfl) (ls_ins ls_end)))) ?_
  refine g_sub [2, 3] rfl ?_
  exact w11_common_L4 X hK  n a0 a1 E
-- AskedNamesModel.mean
def f11_mean_J64 (K : Ly) (n : Nat) (r7 : Int32 → Int32 → Int32 → Option (Int32)) (x0 : Nat) (x1 : Int32) (x2 : Int32) (x4 : Int32) (s0 : Int32) (s1 : Int32) (h : Hp) : Option (Int32) :=
    lt (s0 + s1) fun x3_14 =>
    lt (x4 + (1 : Int32)) fun x4_15 =>
    r7 x2 x3_14 x4_15
def f11_mean_J45 (K : Ly) (n : Nat) (r7 : Int32 → Int32 → Int32 → Option (Int32)) (x0 : Nat) (x1 : Int32) (x3 : Int32) (x4 : Int32) (s0 : Int32) (s1 : Int32) (h : Hp) : Option (Int32) :=
    lt (s0 + s1) fun x2_11 =>
    gd (inb x4 64) <|
    f11_mean_J64 K n (r7) x0 x1 x2_11 x4 x3 (if (h.1 (x0 + 40) x4.toNatClampNeg) = (1 : Int32) then (1 : Int32) else (0 : Int32)) h
def f11_mean_J89 (K : Ly) (n : Nat)  (x2 : Int32) (x3 : Int32) (s0 : Int32) (h : Hp) : Option (Int32) :=
    bp (f11_common K n x3 x2 h) fun y9 =>
    gd (decide (¬ y9 = 0)) <|
    some (s0 / y9)
def f11_mean_L7 (K : Ly) (n : Nat) (x0 : Nat) (x1 : Int32) (h : Hp)  : Nat → Int32 → Int32 → Int32 → Option (Int32)
  | 0, _, _, _ => none
  | k + 1, x2, x3, x4 =>
    if (40 : Int32) ≤ x4 then (
    if x3 = 0 then (
    some (-1 : Int32))
    else (
    f11_mean_J89 K n x2 x3 (if x1 = 0 then x2 else x3) h))
    else (
    gd (inb x4 64) <|
    if (h.1 (x0 + 40) x4.toNatClampNeg) = (1 : Int32) then (
    gd (inb x4 64) <|
    gd (inb x4 64) <|
    f11_mean_J45 K n (f11_mean_L7 K n x0 x1 h  k) x0 x1 x3 x4 x2 ((h.1 (x0 + 41) x4.toNatClampNeg) - (h.1 (x0 + 42) x4.toNatClampNeg)) h)
    else (
    f11_mean_J45 K n (f11_mean_L7 K n x0 x1 h  k) x0 x1 x3 x4 x2 (0 : Int32) h))
def f11_mean (K : Ly) (n : Nat) (o : Nat) (a1 : Int32) (h : Hp) : Option (Int32) :=
    f11_mean_L7 K n o a1 h n (0 : Int32) (0 : Int32) (0 : Int32)
set_option maxHeartbeats 4000000 in
set_option maxRecDepth 20000 in
theorem w11_mean_J64 {Γ : CT} {sp : Sp} {K : Ly} {sz n : Nat} {v : Int32} {h : Hp}  {r7 : Int32 → Int32 → Int32 → Option (Int32)}  (X : Ok Γ sp prog_13_method_122_code Rc11 5 (some (.int)) 2 (some (.int v)) sz K h) (hK : LyOk K) (x0 : Nat) (x1 : Int32) (x2 : Int32) (x4 : Int32) (s0 : Int32) (s1 : Int32)  (hr7 : ∀ (x2 : Int32) (x3 : Int32) (x4 : Int32), r7 x2 x3 x4 = some v → Go Γ (0, 0) 7 [(0, .ref x0), (1, .int x1), (2, .int x2), (3, .int x3), (4, .int x4)] [] sz K h) (px0 : K x0 = some (.inl 11)) (E : f11_mean_J64 K n r7 x0 x1 x2 x4 s0 s1 h = some v) : Go Γ (0, 0) 64 [(0, .ref x0), (1, .int x1), (2, .int x2), (4, .int x4)] [.int s1, .int s0] sz K h := by
  unfold f11_mean_J64 at E
  refine g_iadd X (by decide +kernel) ?_
  obtain ⟨x3_14, ex3_14, E⟩ := lt_E E
  refine s_istore_n (n := 3) (i := 3) X (by decide +kernel) rfl (by decide) ex3_14 (ls_next (by decide) (Or.inr rfl) (ls_next (by decide) (Or.inr rfl) (ls_next (by decide) (Or.inr rfl) (ls_ins (ls_next (by decide) (Or.inr rfl) ls_end))))) ?_
  obtain ⟨x4_15, ex4_15, E⟩ := lt_E E
  refine s_iinc (i := 4) (n := 1) (y := x4_15) X (by decide +kernel) 4 rfl (by decide) ex4_15 (ls_next (by decide) (Or.inr rfl) (ls_next (by decide) (Or.inr rfl) (ls_next (by decide) (Or.inr rfl) (ls_next (by decide) (Or.inr rfl) (ls_here ls_end))))) ?_
  refine g_goto (off := -62) (tgt := 7) X (by decide +kernel) (by decide) ?_
  exact hr7 x2 x3_14 x4_15  E
set_option maxHeartbeats 4000000 in
set_option maxRecDepth 20000 in
theorem w11_mean_J45 {Γ : CT} {sp : Sp} {K : Ly} {sz n : Nat} {v : Int32} {h : Hp}  {r7 : Int32 → Int32 → Int32 → Option (Int32)}  (X : Ok Γ sp prog_13_method_122_code Rc11 5 (some (.int)) 2 (some (.int v)) sz K h) (hK : LyOk K) (x0 : Nat) (x1 : Int32) (x3 : Int32) (x4 : Int32) (s0 : Int32) (s1 : Int32)  (hr7 : ∀ (x2 : Int32) (x3 : Int32) (x4 : Int32), r7 x2 x3 x4 = some v → Go Γ (0, 0) 7 [(0, .ref x0), (1, .int x1), (2, .int x2), (3, .int x3), (4, .int x4)] [] sz K h) (px0 : K x0 = some (.inl 11)) (E : f11_mean_J45 K n r7 x0 x1 x3 x4 s0 s1 h = some v) : Go Γ (0, 0) 45 [(0, .ref x0), (1, .int x1), (3, .int x3), (4, .int x4)] [.int s1, .int s0] sz K h := by
  unfold f11_mean_J45 at E
  refine g_iadd X (by decide +kernel) ?_
  obtain ⟨x2_11, ex2_11, E⟩ := lt_E E
  refine s_istore_n (n := 2) (i := 2) X (by decide +kernel) rfl (by decide) ex2_11 (ls_next (by decide) (Or.inr rfl) (ls_next (by decide) (Or.inr rfl) (ls_ins (ls_next (by decide) (Or.inr rfl) (ls_next (by decide) (Or.inr rfl) ls_end))))) ?_
  refine g_iload_n (n := 3) X (by decide +kernel) 3 rfl ?_
  refine g_aload_n (n := 0) X (by decide +kernel) 0 rfl ?_
  refine g_getS X (by decide +kernel) fl11_129 px0 ?_
  refine g_iload (n := 4) X (by decide +kernel) 4 rfl ?_
  obtain ⟨c12, E⟩ := gd_E E
  refine g_iald X (by decide +kernel) (ly hK px0 fl11_129 rfl) c12 ?_
  refine g_iconst (n := 1) (x := (1 : Int32)) X (by decide +kernel) (by decide) ?_
  have hJ : Go Γ (0, 0) 64 [(0, .ref x0), (1, .int x1), (2, .int x2_11), (4, .int x4)] [.int (if (h.1 (x0 + 40) x4.toNatClampNeg) = (1 : Int32) then (1 : Int32) else (0 : Int32)), .int x3] sz K h := by
    exact w11_mean_J64 X hK x0 x1 x2_11 x4 x3 (if (h.1 (x0 + 40) x4.toNatClampNeg) = (1 : Int32) then (1 : Int32) else (0 : Int32)) hr7 px0 E
  clear E
  by_cases c13 : (h.1 (x0 + 40) x4.toNatClampNeg) = (1 : Int32)
  · rw [if_pos c13] at hJ
    refine g_icmp_ne_f (off := 7) (tgt := 63) X (by decide +kernel) (by decide) (fun z => z c13) ?_
    refine g_iconst (n := 1) (x := (1 : Int32)) X (by decide +kernel) (by decide) ?_
    refine g_goto (off := 4) (tgt := 64) X (by decide +kernel) (by decide) ?_
    refine g_sub [0, 1, 2, 4] rfl ?_
    exact hJ
  · rw [if_neg c13] at hJ
    refine g_icmp_ne_t (off := 7) (tgt := 63) X (by decide +kernel) (by decide) c13 ?_
    refine g_iconst (n := 0) (x := (0 : Int32)) X (by decide +kernel) (by decide) ?_
    refine g_sub [0, 1, 2, 4] rfl ?_
    exact hJ
set_option maxHeartbeats 4000000 in
set_option maxRecDepth 20000 in
theorem w11_mean_J89 {Γ : CT} {sp : Sp} {K : Ly} {sz n : Nat} {v : Int32} {h : Hp}   (X : Ok Γ sp prog_13_method_122_code Rc11 5 (some (.int)) 2 (some (.int v)) sz K h) (hK : LyOk K) (x2 : Int32) (x3 : Int32) (s0 : Int32)    (E : f11_mean_J89 K n x2 x3 s0 h = some v) : Go Γ (0, 0) 89 [(2, .int x2), (3, .int x3)] [.int s0] sz K h := by
  unfold f11_mean_J89 at E
  refine g_iload_n (n := 3) X (by decide +kernel) 1 rfl ?_
  refine g_iload_n (n := 2) X (by decide +kernel) 0 rfl ?_
  obtain ⟨y9, e8, E⟩ := bp_E E
  refine g_callS1 (st := [.int s0]) X [.int x3, .int x2] (by decide +kernel) ml11_622 (by decide) (Nat.le_of_ble_eq_true rfl) (c11_common hK x3 x2 h  e8) ?_
  obtain ⟨c10, E⟩ := gd_E E
  refine g_idiv X (by decide +kernel) (of_decide_eq_true c10) ?_
  obtain rfl := Option.some.inj E
  exact g_ireturn X (by decide +kernel)
set_option maxHeartbeats 4000000 in
set_option maxRecDepth 20000 in
theorem w11_mean_L7 {Γ : CT} {sp : Sp} {K : Ly} {sz n : Nat} {v : Int32} {h : Hp}  (X : Ok Γ sp prog_13_method_122_code Rc11 5 (some (.int)) 2 (some (.int v)) sz K h) (hK : LyOk K) (x0 : Nat) (x1 : Int32)  (px0 : K x0 = some (.inl 11))  : ∀ (k : Nat) (x2 : Int32) (x3 : Int32) (x4 : Int32), f11_mean_L7 K n x0 x1 h  k x2 x3 x4 = some v → Go Γ (0, 0) 7 [(0, .ref x0), (1, .int x1), (2, .int x2), (3, .int x3), (4, .int x4)] [] sz K h := by
  intro k
  induction k with
  | zero => intro x2 x3 x4 E; cases E
  | succ k ih =>
    intro x2 x3 x4 E
    unfold f11_mean_L7 at E
    refine g_iload (n := 4) X (by decide +kernel) 4 rfl ?_
    refine g_bipush (n := 40) (x := (40 : Int32)) X (by decide +kernel) (by decide) ?_
    rcases it_E E with ⟨c1, E⟩ | ⟨c1, E⟩
    · refine g_icmp_ge_t (off := 61) (tgt := 72) X (by decide +kernel) (by decide) c1 ?_
      refine g_iload_n (n := 3) X (by decide +kernel) 3 rfl ?_
      rcases it_E E with ⟨c2, E⟩ | ⟨c2, E⟩
      · refine g_if_ne_f (off := 7) (tgt := 80) X (by decide +kernel) (by decide) (fun z => z c2) ?_
        refine g_iconst (n := -1) (x := (-1 : Int32)) X (by decide +kernel) (by decide) ?_
        refine g_goto (off := 18) (tgt := 95) X (by decide +kernel) (by decide) ?_
        obtain rfl := Option.some.inj E
        exact g_ireturn X (by decide +kernel)
      · refine g_if_ne_t (off := 7) (tgt := 80) X (by decide +kernel) (by decide) c2 ?_
        refine g_iload_n (n := 1) X (by decide +kernel) 1 rfl ?_
        have hJ : Go Γ (0, 0) 89 [(2, .int x2), (3, .int x3)] [.int (if x1 = 0 then x2 else x3)] sz K h := by
          exact w11_mean_J89 X hK x2 x3 (if x1 = 0 then x2 else x3) E
        clear E
        by_cases c3 : x1 = 0
        · rw [if_pos c3] at hJ
          refine g_if_eq_t (off := 7) (tgt := 88) X (by decide +kernel) (by decide) c3 ?_
          refine g_iload_n (n := 2) X (by decide +kernel) 2 rfl ?_
          refine g_sub [2, 3] rfl ?_
          exact hJ
        · rw [if_neg c3] at hJ
          refine g_if_eq_f (off := 7) (tgt := 88) X (by decide +kernel) (by decide) c3 ?_
          refine g_iload_n (n := 3) X (by decide +kernel) 3 rfl ?_
          refine g_goto (off := 4) (tgt := 89) X (by decide +kernel) (by decide) ?_
          refine g_sub [2, 3] rfl ?_
          exact hJ
    · refine g_icmp_ge_f (off := 61) (tgt := 72) X (by decide +kernel) (by decide) c1 ?_
      refine g_iload_n (n := 2) X (by decide +kernel) 2 rfl ?_
      refine g_aload_n (n := 0) X (by decide +kernel) 0 rfl ?_
      refine g_getS X (by decide +kernel) fl11_129 px0 ?_
      refine g_iload (n := 4) X (by decide +kernel) 4 rfl ?_
      obtain ⟨c4, E⟩ := gd_E E
      refine g_iald X (by decide +kernel) (ly hK px0 fl11_129 rfl) c4 ?_
      refine g_iconst (n := 1) (x := (1 : Int32)) X (by decide +kernel) (by decide) ?_
      rcases it_E E with ⟨c5, E⟩ | ⟨c5, E⟩
      · refine g_icmp_ne_f (off := 21) (tgt := 44) X (by decide +kernel) (by decide) (fun z => z c5) ?_
        refine g_aload_n (n := 0) X (by decide +kernel) 0 rfl ?_
        refine g_getS X (by decide +kernel) fl11_132 px0 ?_
        refine g_iload (n := 4) X (by decide +kernel) 4 rfl ?_
        obtain ⟨c6, E⟩ := gd_E E
        refine g_iald X (by decide +kernel) (ly hK px0 fl11_132 rfl) c6 ?_
        refine g_aload_n (n := 0) X (by decide +kernel) 0 rfl ?_
        refine g_getS X (by decide +kernel) fl11_135 px0 ?_
        refine g_iload (n := 4) X (by decide +kernel) 4 rfl ?_
        obtain ⟨c7, E⟩ := gd_E E
        refine g_iald X (by decide +kernel) (ly hK px0 fl11_135 rfl) c7 ?_
        refine g_isub X (by decide +kernel) ?_
        refine g_goto (off := 4) (tgt := 45) X (by decide +kernel) (by decide) ?_
        refine g_sub [0, 1, 3, 4] rfl ?_
        exact w11_mean_J45 X hK x0 x1 x3 x4 x2 ((h.1 (x0 + 41) x4.toNatClampNeg) - (h.1 (x0 + 42) x4.toNatClampNeg)) ih px0 E
      · refine g_icmp_ne_t (off := 21) (tgt := 44) X (by decide +kernel) (by decide) c5 ?_
        refine g_iconst (n := 0) (x := (0 : Int32)) X (by decide +kernel) (by decide) ?_
        refine g_sub [0, 1, 3, 4] rfl ?_
        exact w11_mean_J45 X hK x0 x1 x3 x4 x2 (0 : Int32) ih px0 E
set_option maxHeartbeats 4000000 in
set_option maxRecDepth 20000 in
theorem c11_mean {sp : Sp} {K : Ly} {sz n : Nat} (hK : LyOk K) (o : Nat) (a1 : Int32) (h : Hp) (ho : K o = some (.inl 11)) {v : Int32} (E : f11_mean K n o a1 h = some v) : Con sp y11_mean prog_13_method_122_code 5 (some (.int)) 2 0 0 [.ref o, .int a1] sz K h (some (.int v)) sz K h := by
  refine Con.of (by decide) (Nat.le_of_ble_eq_true rfl) (fun Γ X _ => ?_)
  show Go Γ (0, 0) 0 [(0, .ref o), (1, .int a1)] [] sz K h
  unfold f11_mean at E
  refine g_iconst (n := 0) (x := (0 : Int32)) X (by decide +kernel) (by decide) ?_
  refine s_istore_n (n := 2) (i := 2) X (by decide +kernel) rfl (by decide) rfl (ls_next (by decide) (Or.inr rfl) (ls_next (by decide) (Or.inr rfl) (ls_ins ls_end))) ?_
  refine g_iconst (n := 0) (x := (0 : Int32)) X (by decide +kernel) (by decide) ?_
  refine s_istore_n (n := 3) (i := 3) X (by decide +kernel) rfl (by decide) rfl (ls_next (by decide) (Or.inr rfl) (ls_next (by decide) (Or.inr rfl) (ls_next (by decide) (Or.inr rfl) (ls_ins ls_end)))) ?_
  refine g_iconst (n := 0) (x := (0 : Int32)) X (by decide +kernel) (by decide) ?_
  refine s_istore (i := 4) X (by decide +kernel) (by decide) rfl (ls_next (by decide) (Or.inr rfl) (ls_next (by decide) (Or.inr rfl) (ls_next (by decide) (Or.inr rfl) (ls_next (by decide) (Or.inr rfl) (ls_ins ls_end))))) ?_
  exact w11_mean_L7 X hK o a1 ho n (0 : Int32) (0 : Int32) (0 : Int32) E
-- AskedNamesModel.after
def f11_after_J123 (K : Ly) (n : Nat)  (s0 : Nat) (s1 : Int32) (h : Hp) : Option (Int32 × Hp) :=
    bp (f11_mean K n s0 s1 h) fun y23 =>
    some (y23, h)
def f11_after_J111 (K : Ly) (n : Nat)  (x0 : Nat) (x3 : Int32) (h : Hp) : Option (Int32 × Hp) :=
    f11_after_J123 K n x0 (if x3 = (8 : Int32) then (1 : Int32) else (0 : Int32)) h
def f11_after (K : Ly) (n : Nat) (o : Nat) (a1 : Int32) (a2 : Int32) (a3 : Int32) (h : Hp) : Option (Int32 × Hp) :=
    lt (sI h o 0 (0 : Int32)) fun h1 =>
    bd (f11_lay K n o a1 a2 h1) fun y4 h3 =>
    if y4 = 0 then (
    some ((-2 : Int32), h3))
    else (
    bp (f11_deeds K n o h3) fun y7 =>
    bd (f11_play K n o y7 h3) fun y10 h9 =>
    if a3 = (0 : Int32) then (
    some ((h9.1 o 65), h9))
    else if a3 = (1 : Int32) then (
    some ((h9.1 o 66), h9))
    else if a3 = (2 : Int32) then (
    some ((h9.1 o 67), h9))
    else if a3 = (3 : Int32) then (
    some ((h9.1 o 68), h9))
    else if a3 = (4 : Int32) then (
    some ((h9.1 o 69), h9))
    else if a3 = (5 : Int32) then (
    some ((h9.1 o 70), h9))
    else if a3 = (6 : Int32) then (
    some ((h9.1 o 76), h9))
    else if a3 = (7 : Int32) then (
    f11_after_J111 K n o a3 h9)
    else if a3 = (8 : Int32) then (
    f11_after_J111 K n o a3 h9)
    else (
    some ((-2 : Int32), h9)))
set_option maxHeartbeats 4000000 in
set_option maxRecDepth 20000 in
theorem w11_after_J123 {Γ : CT} {sp : Sp} {K : Ly} {sz n : Nat} {v : Int32} {hf : Hp}   (X : Ok Γ sp prog_13_method_123_code Rc11 4 (some (.int)) 13 (some (.int v)) sz K hf) (hK : LyOk K) (s0 : Nat) (s1 : Int32) (h : Hp)  (ps0 : K s0 = some (.inl 11)) (E : f11_after_J123 K n s0 s1 h = some (v, hf)) : Go Γ (0, 0) 123 [] [.int s1, .ref s0] sz K h := by
  unfold f11_after_J123 at E
  obtain ⟨y23, e22, E⟩ := bp_E E
  refine g_callV1 (st := []) X [.int s1] (by decide +kernel) ml11_625 ps0 rfl rfl (by decide) (Nat.le_of_ble_eq_true rfl) (c11_mean hK s0 s1 h ps0 e22) ?_
  obtain ⟨rfl, rfl⟩ := rt_E E
  exact g_ireturn X (by decide +kernel)
set_option maxHeartbeats 4000000 in
set_option maxRecDepth 20000 in
theorem w11_after_J111 {Γ : CT} {sp : Sp} {K : Ly} {sz n : Nat} {v : Int32} {hf : Hp}   (X : Ok Γ sp prog_13_method_123_code Rc11 4 (some (.int)) 13 (some (.int v)) sz K hf) (hK : LyOk K) (x0 : Nat) (x3 : Int32) (h : Hp)  (px0 : K x0 = some (.inl 11)) (E : f11_after_J111 K n x0 x3 h = some (v, hf)) : Go Γ (0, 0) 111 [(0, .ref x0), (3, .int x3)] [] sz K h := by
  unfold f11_after_J111 at E
  refine g_aload_n (n := 0) X (by decide +kernel) 0 rfl ?_
  refine g_iload_n (n := 3) X (by decide +kernel) 1 rfl ?_
  refine g_bipush (n := 8) (x := (8 : Int32)) X (by decide +kernel) (by decide) ?_
  have hJ : Go Γ (0, 0) 123 [] [.int (if x3 = (8 : Int32) then (1 : Int32) else (0 : Int32)), .ref x0] sz K h := by
    exact w11_after_J123 X hK x0 (if x3 = (8 : Int32) then (1 : Int32) else (0 : Int32)) h px0 E
  clear E
  by_cases c21 : x3 = (8 : Int32)
  · rw [if_pos c21] at hJ
    refine g_icmp_ne_f (off := 7) (tgt := 122) X (by decide +kernel) (by decide) (fun z => z c21) ?_
    refine g_iconst (n := 1) (x := (1 : Int32)) X (by decide +kernel) (by decide) ?_
    refine g_goto (off := 4) (tgt := 123) X (by decide +kernel) (by decide) ?_
    refine g_sub [] rfl ?_
    exact hJ
  · rw [if_neg c21] at hJ
    refine g_icmp_ne_t (off := 7) (tgt := 122) X (by decide +kernel) (by decide) c21 ?_
    refine g_iconst (n := 0) (x := (0 : Int32)) X (by decide +kernel) (by decide) ?_
    refine g_sub [] rfl ?_
    exact hJ
set_option maxHeartbeats 4000000 in
set_option maxRecDepth 20000 in
theorem c11_after {sp : Sp} {K : Ly} {sz n : Nat} (hK : LyOk K) (o : Nat) (a1 : Int32) (a2 : Int32) (a3 : Int32) (h : Hp) (ho : K o = some (.inl 11)) {v : Int32} {hf : Hp} (E : f11_after K n o a1 a2 a3 h = some (v, hf)) : Con sp y11_after prog_13_method_123_code 4 (some (.int)) 13 0 0 [.ref o, .int a1, .int a2, .int a3] sz K h (some (.int v)) sz K hf := by
  refine Con.of (by decide) (Nat.le_of_ble_eq_true rfl) (fun Γ X _ => ?_)
  show Go Γ (0, 0) 0 [(0, .ref o), (1, .int a1), (2, .int a2), (3, .int a3)] [] sz K h
  unfold f11_after at E
  refine g_aload_n (n := 0) X (by decide +kernel) 0 rfl ?_
  refine g_iconst (n := 0) (x := (0 : Int32)) X (by decide +kernel) (by decide) ?_
  obtain ⟨h1, eh1, E⟩ := lt_E E
  refine g_putI X (by decide +kernel) fp11_169 ho eh1 ?_
  refine g_aload_n (n := 0) X (by decide +kernel) 0 rfl ?_
  refine g_iload_n (n := 1) X (by decide +kernel) 1 rfl ?_
  refine g_iload_n (n := 2) X (by decide +kernel) 2 rfl ?_
  obtain ⟨y4, h3, e2, E⟩ := bd_E E
  refine g_callV1 (st := []) X [.int a1, .int a2] (by decide +kernel) ml11_552 ho rfl rfl (by decide) (Nat.le_of_ble_eq_true rfl) (c11_lay hK o a1 a2 h1 ho e2) ?_
  rcases it_E E with ⟨c5, E⟩ | ⟨c5, E⟩
  · refine g_if_ne_f (off := 6) (tgt := 17) X (by decide +kernel) (by decide) (fun z => z c5) ?_
    refine g_bipush (n := -2) (x := (-2 : Int32)) X (by decide +kernel) (by decide) ?_
    obtain ⟨rfl, rfl⟩ := rt_E E
    exact g_ireturn X (by decide +kernel)
  · refine g_if_ne_t (off := 6) (tgt := 17) X (by decide +kernel) (by decide) c5 ?_
    refine g_aload_n (n := 0) X (by decide +kernel) 0 rfl ?_
    refine g_aload_n (n := 0) X (by decide +kernel) 0 rfl ?_
    obtain ⟨y7, e6, E⟩ := bp_E E
    refine g_callV1 (st := [.ref o]) X [] (by decide +kernel) ml11_534 ho rfl rfl (by decide) (Nat.le_of_ble_eq_true rfl) (c11_deeds hK o h3 ho e6) ?_
    obtain ⟨y10, h9, e8, E⟩ := bd_E E
    refine g_callV1 (st := []) X [.int y7] (by decide +kernel) ml11_555 ho rfl rfl (by decide) (Nat.le_of_ble_eq_true rfl) (c11_play hK o y7 h3 ho e8) ?_
    refine g_pop X (by decide +kernel) rfl ?_
    refine g_iload_n (n := 3) X (by decide +kernel) 3 rfl ?_
    rcases it_E E with ⟨c11, E⟩ | ⟨c11, E⟩
    · refine g_tab_in (dflt := 100) (lo := 0) (hi := 8) (offs := #[49, 54, 59, 64, 69, 74, 79, 84, 84]) (len := 49) (off := 49) (tgt := 76) X (by decide +kernel) (by rw [c11]; decide) (by rw [c11]; decide) (by rw [c11]; decide) (by decide) ?_
      refine g_aload_n (n := 0) X (by decide +kernel) 0 rfl ?_
      refine g_getI X (by decide +kernel) fl11_390 ho ?_
      obtain ⟨rfl, rfl⟩ := rt_E E
      exact g_ireturn X (by decide +kernel)
    · rcases it_E E with ⟨c12, E⟩ | ⟨c12, E⟩
      · refine g_tab_in (dflt := 100) (lo := 0) (hi := 8) (offs := #[49, 54, 59, 64, 69, 74, 79, 84, 84]) (len := 49) (off := 54) (tgt := 81) X (by decide +kernel) (by rw [c12]; decide) (by rw [c12]; decide) (by rw [c12]; decide) (by decide) ?_
        refine g_aload_n (n := 0) X (by decide +kernel) 0 rfl ?_
        refine g_getI X (by decide +kernel) fl11_393 ho ?_
        obtain ⟨rfl, rfl⟩ := rt_E E
        exact g_ireturn X (by decide +kernel)
      · rcases it_E E with ⟨c13, E⟩ | ⟨c13, E⟩
        · refine g_tab_in (dflt := 100) (lo := 0) (hi := 8) (offs := #[49, 54, 59, 64, 69, 74, 79, 84, 84]) (len := 49) (off := 59) (tgt := 86) X (by decide +kernel) (by rw [c13]; decide) (by rw [c13]; decide) (by rw [c13]; decide) (by decide) ?_
          refine g_aload_n (n := 0) X (by decide +kernel) 0 rfl ?_
          refine g_getI X (by decide +kernel) fl11_396 ho ?_
          obtain ⟨rfl, rfl⟩ := rt_E E
          exact g_ireturn X (by decide +kernel)
        · rcases it_E E with ⟨c14, E⟩ | ⟨c14, E⟩
          · refine g_tab_in (dflt := 100) (lo := 0) (hi := 8) (offs := #[49, 54, 59, 64, 69, 74, 79, 84, 84]) (len := 49) (off := 64) (tgt := 91) X (by decide +kernel) (by rw [c14]; decide) (by rw [c14]; decide) (by rw [c14]; decide) (by decide) ?_
            refine g_aload_n (n := 0) X (by decide +kernel) 0 rfl ?_
            refine g_getI X (by decide +kernel) fl11_399 ho ?_
            obtain ⟨rfl, rfl⟩ := rt_E E
            exact g_ireturn X (by decide +kernel)
          · rcases it_E E with ⟨c15, E⟩ | ⟨c15, E⟩
            · refine g_tab_in (dflt := 100) (lo := 0) (hi := 8) (offs := #[49, 54, 59, 64, 69, 74, 79, 84, 84]) (len := 49) (off := 69) (tgt := 96) X (by decide +kernel) (by rw [c15]; decide) (by rw [c15]; decide) (by rw [c15]; decide) (by decide) ?_
              refine g_aload_n (n := 0) X (by decide +kernel) 0 rfl ?_
              refine g_getI X (by decide +kernel) fl11_402 ho ?_
              obtain ⟨rfl, rfl⟩ := rt_E E
              exact g_ireturn X (by decide +kernel)
            · rcases it_E E with ⟨c16, E⟩ | ⟨c16, E⟩
              · refine g_tab_in (dflt := 100) (lo := 0) (hi := 8) (offs := #[49, 54, 59, 64, 69, 74, 79, 84, 84]) (len := 49) (off := 74) (tgt := 101) X (by decide +kernel) (by rw [c16]; decide) (by rw [c16]; decide) (by rw [c16]; decide) (by decide) ?_
                refine g_aload_n (n := 0) X (by decide +kernel) 0 rfl ?_
                refine g_getI X (by decide +kernel) fl11_405 ho ?_
                obtain ⟨rfl, rfl⟩ := rt_E E
                exact g_ireturn X (by decide +kernel)
              · rcases it_E E with ⟨c17, E⟩ | ⟨c17, E⟩
                · refine g_tab_in (dflt := 100) (lo := 0) (hi := 8) (offs := #[49, 54, 59, 64, 69, 74, 79, 84, 84]) (len := 49) (off := 79) (tgt := 106) X (by decide +kernel) (by rw [c17]; decide) (by rw [c17]; decide) (by rw [c17]; decide) (by decide) ?_
                  refine g_aload_n (n := 0) X (by decide +kernel) 0 rfl ?_
                  refine g_getI X (by decide +kernel) fl11_540 ho ?_
                  obtain ⟨rfl, rfl⟩ := rt_E E
                  exact g_ireturn X (by decide +kernel)
                · rcases it_E E with ⟨c18, E⟩ | ⟨c18, E⟩
                  · refine g_tab_in (dflt := 100) (lo := 0) (hi := 8) (offs := #[49, 54, 59, 64, 69, 74, 79, 84, 84]) (len := 49) (off := 84) (tgt := 111) X (by decide +kernel) (by rw [c18]; decide) (by rw [c18]; decide) (by rw [c18]; decide) (by decide) ?_
                    refine g_sub [0, 3] rfl ?_
                    exact w11_after_J111 X hK o a3 h9 ho E
                  · rcases it_E E with ⟨c19, E⟩ | ⟨c19, E⟩
                    · refine g_tab_in (dflt := 100) (lo := 0) (hi := 8) (offs := #[49, 54, 59, 64, 69, 74, 79, 84, 84]) (len := 49) (off := 84) (tgt := 111) X (by decide +kernel) (by rw [c19]; decide) (by rw [c19]; decide) (by rw [c19]; decide) (by decide) ?_
                      refine g_sub [0, 3] rfl ?_
                      exact w11_after_J111 X hK o a3 h9 ho E
                    · have z20 : a3.toInt < 0 ∨ 8 < a3.toInt := by
                        have z := sw_out (x := a3) 0 8 (by decide) (by decide) (by
                          intro j hj
                          have hj2 : j = 0 ∨ j = 1 ∨ j = 2 ∨ j = 3 ∨ j = 4 ∨ j = 5 ∨ j = 6 ∨ j = 7 ∨ j = 8 := by omega
                          rcases hj2 with rfl | rfl | rfl | rfl | rfl | rfl | rfl | rfl | rfl
                          · exact c11
                          · exact c12
                          · exact c13
                          · exact c14
                          · exact c15
                          · exact c16
                          · exact c17
                          · exact c18
                          · exact c19)
                        simpa using z
                      refine g_tab_out (dflt := 100) (lo := 0) (hi := 8) (offs := #[49, 54, 59, 64, 69, 74, 79, 84, 84]) (len := 49) (tgt := 127) X (by decide +kernel) z20 (by decide) ?_
                      refine g_bipush (n := -2) (x := (-2 : Int32)) X (by decide +kernel) (by decide) ?_
                      obtain ⟨rfl, rfl⟩ := rt_E E
                      exact g_ireturn X (by decide +kernel)
-- AskedNamesModel.linksAt
def f11_linksAt_J38 (K : Ly) (n : Nat) (r4 : Int32 → Int32 → Option (Int32)) (x0 : Nat) (x1 : Int32) (x3 : Int32) (s0 : Int32) (s1 : Int32) (h : Hp) : Option (Int32) :=
    lt (s0 + s1) fun x2_10 =>
    lt (x3 + (1 : Int32)) fun x3_11 =>
    r4 x2_10 x3_11
def f11_linksAt_J33 (K : Ly) (n : Nat) (r4 : Int32 → Int32 → Option (Int32)) (x0 : Nat) (x1 : Int32) (x3 : Int32) (s0 : Int32) (h : Hp) : Option (Int32) :=
    f11_linksAt_J38 K n (r4) x0 x1 x3 s0 (1 : Int32) h
def f11_linksAt_L4 (K : Ly) (n : Nat) (x0 : Nat) (x1 : Int32) (h : Hp)  : Nat → Int32 → Int32 → Option (Int32)
  | 0, _, _ => none
  | k + 1, x2, x3 =>
    bp (f11_links K n x0 h) fun y2 =>
    if y2 ≤ x3 then (
    some x2)
    else (
    bp (f11_linkAt K n x0 x3 (0 : Int32) h) fun y5 =>
    if y5 = x1 then (
    f11_linksAt_J33 K n (f11_linksAt_L4 K n x0 x1 h  k) x0 x1 x3 x2 h)
    else (
    bp (f11_linkAt K n x0 x3 (1 : Int32) h) fun y8 =>
    f11_linksAt_J38 K n (f11_linksAt_L4 K n x0 x1 h  k) x0 x1 x3 x2 (if y8 = x1 then (1 : Int32) else (0 : Int32)) h))
def f11_linksAt (K : Ly) (n : Nat) (o : Nat) (a1 : Int32) (h : Hp) : Option (Int32) :=
    f11_linksAt_L4 K n o a1 h n (0 : Int32) (0 : Int32)
set_option maxHeartbeats 4000000 in
set_option maxRecDepth 20000 in
theorem w11_linksAt_J38 {Γ : CT} {sp : Sp} {K : Ly} {sz n : Nat} {v : Int32} {h : Hp}  {r4 : Int32 → Int32 → Option (Int32)}  (X : Ok Γ sp prog_13_method_124_code Rc11 4 (some (.int)) 3 (some (.int v)) sz K h) (hK : LyOk K) (x0 : Nat) (x1 : Int32) (x3 : Int32) (s0 : Int32) (s1 : Int32)  (hr4 : ∀ (x2 : Int32) (x3 : Int32), r4 x2 x3 = some v → Go Γ (0, 0) 4 [(0, .ref x0), (1, .int x1), (2, .int x2), (3, .int x3)] [] sz K h) (px0 : K x0 = some (.inl 11)) (E : f11_linksAt_J38 K n r4 x0 x1 x3 s0 s1 h = some v) : Go Γ (0, 0) 38 [(0, .ref x0), (1, .int x1), (3, .int x3)] [.int s1, .int s0] sz K h := by
  unfold f11_linksAt_J38 at E
  refine g_iadd X (by decide +kernel) ?_
  obtain ⟨x2_10, ex2_10, E⟩ := lt_E E
  refine s_istore_n (n := 2) (i := 2) X (by decide +kernel) rfl (by decide) ex2_10 (ls_next (by decide) (Or.inr rfl) (ls_next (by decide) (Or.inr rfl) (ls_ins (ls_next (by decide) (Or.inr rfl) ls_end)))) ?_
  obtain ⟨x3_11, ex3_11, E⟩ := lt_E E
  refine s_iinc (i := 3) (n := 1) (y := x3_11) X (by decide +kernel) 3 rfl (by decide) ex3_11 (ls_next (by decide) (Or.inr rfl) (ls_next (by decide) (Or.inr rfl) (ls_next (by decide) (Or.inr rfl) (ls_here ls_end)))) ?_
  refine g_goto (off := -39) (tgt := 4) X (by decide +kernel) (by decide) ?_
  exact hr4 x2_10 x3_11  E
set_option maxHeartbeats 4000000 in
set_option maxRecDepth 20000 in
theorem w11_linksAt_J33 {Γ : CT} {sp : Sp} {K : Ly} {sz n : Nat} {v : Int32} {h : Hp}  {r4 : Int32 → Int32 → Option (Int32)}  (X : Ok Γ sp prog_13_method_124_code Rc11 4 (some (.int)) 3 (some (.int v)) sz K h) (hK : LyOk K) (x0 : Nat) (x1 : Int32) (x3 : Int32) (s0 : Int32)  (hr4 : ∀ (x2 : Int32) (x3 : Int32), r4 x2 x3 = some v → Go Γ (0, 0) 4 [(0, .ref x0), (1, .int x1), (2, .int x2), (3, .int x3)] [] sz K h) (px0 : K x0 = some (.inl 11)) (E : f11_linksAt_J33 K n r4 x0 x1 x3 s0 h = some v) : Go Γ (0, 0) 33 [(0, .ref x0), (1, .int x1), (3, .int x3)] [.int s0] sz K h := by
  unfold f11_linksAt_J33 at E
  refine g_iconst (n := 1) (x := (1 : Int32)) X (by decide +kernel) (by decide) ?_
  refine g_goto (off := 4) (tgt := 38) X (by decide +kernel) (by decide) ?_
  exact w11_linksAt_J38 X hK x0 x1 x3 s0 (1 : Int32) hr4 px0 E
set_option maxHeartbeats 4000000 in
set_option maxRecDepth 20000 in
theorem w11_linksAt_L4 {Γ : CT} {sp : Sp} {K : Ly} {sz n : Nat} {v : Int32} {h : Hp}  (X : Ok Γ sp prog_13_method_124_code Rc11 4 (some (.int)) 3 (some (.int v)) sz K h) (hK : LyOk K) (x0 : Nat) (x1 : Int32)  (px0 : K x0 = some (.inl 11))  : ∀ (k : Nat) (x2 : Int32) (x3 : Int32), f11_linksAt_L4 K n x0 x1 h  k x2 x3 = some v → Go Γ (0, 0) 4 [(0, .ref x0), (1, .int x1), (2, .int x2), (3, .int x3)] [] sz K h := by
  intro k
  induction k with
  | zero => intro x2 x3 E; cases E
  | succ k ih =>
    intro x2 x3 E
    unfold f11_linksAt_L4 at E
    refine g_iload_n (n := 3) X (by decide +kernel) 3 rfl ?_
    refine g_aload_n (n := 0) X (by decide +kernel) 0 rfl ?_
    obtain ⟨y2, e1, E⟩ := bp_E E
    refine g_callV1 (st := [.int x3]) X [] (by decide +kernel) ml11_345 px0 rfl rfl (by decide) (Nat.le_of_ble_eq_true rfl) (c11_links hK x0 h px0 e1) ?_
    rcases it_E E with ⟨c3, E⟩ | ⟨c3, E⟩
    · refine g_icmp_ge_t (off := 37) (tgt := 46) X (by decide +kernel) (by decide) c3 ?_
      refine g_iload_n (n := 2) X (by decide +kernel) 2 rfl ?_
      obtain rfl := Option.some.inj E
      exact g_ireturn X (by decide +kernel)
    · refine g_icmp_ge_f (off := 37) (tgt := 46) X (by decide +kernel) (by decide) c3 ?_
      refine g_iload_n (n := 2) X (by decide +kernel) 2 rfl ?_
      refine g_aload_n (n := 0) X (by decide +kernel) 0 rfl ?_
      refine g_iload_n (n := 3) X (by decide +kernel) 3 rfl ?_
      refine g_iconst (n := 0) (x := (0 : Int32)) X (by decide +kernel) (by decide) ?_
      obtain ⟨y5, e4, E⟩ := bp_E E
      refine g_callV1 (st := [.int x2]) X [.int x3, .int (0 : Int32)] (by decide +kernel) ml11_348 px0 rfl rfl (by decide) (Nat.le_of_ble_eq_true rfl) (c11_linkAt hK x0 x3 (0 : Int32) h px0 e4) ?_
      refine g_iload_n (n := 1) X (by decide +kernel) 1 rfl ?_
      rcases it_E E with ⟨c6, E⟩ | ⟨c6, E⟩
      · refine g_icmp_eq_t (off := 13) (tgt := 33) X (by decide +kernel) (by decide) c6 ?_
        refine g_sub [0, 1, 3] rfl ?_
        exact w11_linksAt_J33 X hK x0 x1 x3 x2 ih px0 E
      · refine g_icmp_eq_f (off := 13) (tgt := 33) X (by decide +kernel) (by decide) c6 ?_
        refine g_aload_n (n := 0) X (by decide +kernel) 0 rfl ?_
        refine g_iload_n (n := 3) X (by decide +kernel) 3 rfl ?_
        refine g_iconst (n := 1) (x := (1 : Int32)) X (by decide +kernel) (by decide) ?_
        obtain ⟨y8, e7, E⟩ := bp_E E
        refine g_callV1 (st := [.int x2]) X [.int x3, .int (1 : Int32)] (by decide +kernel) ml11_348 px0 rfl rfl (by decide) (Nat.le_of_ble_eq_true rfl) (c11_linkAt hK x0 x3 (1 : Int32) h px0 e7) ?_
        refine g_iload_n (n := 1) X (by decide +kernel) 1 rfl ?_
        have hJ : Go Γ (0, 0) 38 [(0, .ref x0), (1, .int x1), (3, .int x3)] [.int (if y8 = x1 then (1 : Int32) else (0 : Int32)), .int x2] sz K h := by
          exact w11_linksAt_J38 X hK x0 x1 x3 x2 (if y8 = x1 then (1 : Int32) else (0 : Int32)) ih px0 E
        clear E
        by_cases c9 : y8 = x1
        · rw [if_pos c9] at hJ
          refine g_icmp_ne_f (off := 7) (tgt := 37) X (by decide +kernel) (by decide) (fun z => z c9) ?_
          refine g_iconst (n := 1) (x := (1 : Int32)) X (by decide +kernel) (by decide) ?_
          refine g_goto (off := 4) (tgt := 38) X (by decide +kernel) (by decide) ?_
          refine g_sub [0, 1, 3] rfl ?_
          exact hJ
        · rw [if_neg c9] at hJ
          refine g_icmp_ne_t (off := 7) (tgt := 37) X (by decide +kernel) (by decide) c9 ?_
          refine g_iconst (n := 0) (x := (0 : Int32)) X (by decide +kernel) (by decide) ?_
          refine g_sub [0, 1, 3] rfl ?_
          exact hJ
set_option maxHeartbeats 4000000 in
set_option maxRecDepth 20000 in
theorem c11_linksAt {sp : Sp} {K : Ly} {sz n : Nat} (hK : LyOk K) (o : Nat) (a1 : Int32) (h : Hp) (ho : K o = some (.inl 11)) {v : Int32} (E : f11_linksAt K n o a1 h = some v) : Con sp y11_linksAt prog_13_method_124_code 4 (some (.int)) 3 0 0 [.ref o, .int a1] sz K h (some (.int v)) sz K h := by
  refine Con.of (by decide) (Nat.le_of_ble_eq_true rfl) (fun Γ X _ => ?_)
  show Go Γ (0, 0) 0 [(0, .ref o), (1, .int a1)] [] sz K h
  unfold f11_linksAt at E
  refine g_iconst (n := 0) (x := (0 : Int32)) X (by decide +kernel) (by decide) ?_
  refine s_istore_n (n := 2) (i := 2) X (by decide +kernel) rfl (by decide) rfl (ls_next (by decide) (Or.inr rfl) (ls_next (by decide) (Or.inr rfl) (ls_ins ls_end))) ?_
  refine g_iconst (n := 0) (x := (0 : Int32)) X (by decide +kernel) (by decide) ?_
  refine s_istore_n (n := 3) (i := 3) X (by decide +kernel) rfl (by decide) rfl (ls_next (by decide) (Or.inr rfl) (ls_next (by decide) (Or.inr rfl) (ls_next (by decide) (Or.inr rfl) (ls_ins ls_end)))) ?_
  exact w11_linksAt_L4 X hK o a1 ho n (0 : Int32) (0 : Int32) E
-- AskedNamesModel.isHidden
def f11_isHidden_L2 (K : Ly) (n : Nat) (x0 : Nat) (x1 : Int32) (h : Hp)  : Nat → Int32 → Option (Int32)
  | 0, _ => none
  | k + 1, x2 =>
    if x1 ≤ x2 then (
    some (0 : Int32))
    else (
    bp (f11_routeAt K n x0 x2 (0 : Int32) h) fun y3 =>
    bp (f11_routeAt K n x0 x1 (0 : Int32) h) fun y5 =>
    if y3 = y5 then (
    bp (f11_routeAt K n x0 x2 (1 : Int32) h) fun y8 =>
    bp (f11_routeAt K n x0 x1 (1 : Int32) h) fun y10 =>
    if y8 = y10 then (
    bp (f11_routeAt K n x0 x2 (2 : Int32) h) fun y13 =>
    bp (f11_routeAt K n x0 x1 (2 : Int32) h) fun y15 =>
    if y13 = y15 then (
    some (1 : Int32))
    else (
    lt (x2 + (1 : Int32)) fun x2_17 =>
    f11_isHidden_L2 K n x0 x1 h  k x2_17))
    else (
    lt (x2 + (1 : Int32)) fun x2_18 =>
    f11_isHidden_L2 K n x0 x1 h  k x2_18))
    else (
    lt (x2 + (1 : Int32)) fun x2_19 =>
    f11_isHidden_L2 K n x0 x1 h  k x2_19))
def f11_isHidden (K : Ly) (n : Nat) (o : Nat) (a1 : Int32) (h : Hp) : Option (Int32) :=
    f11_isHidden_L2 K n o a1 h n (0 : Int32)
set_option maxHeartbeats 4000000 in
set_option maxRecDepth 20000 in
theorem w11_isHidden_L2 {Γ : CT} {sp : Sp} {K : Ly} {sz n : Nat} {v : Int32} {h : Hp}  (X : Ok Γ sp prog_13_method_125_code Rc11 3 (some (.boolean)) 3 (some (.int v)) sz K h) (hK : LyOk K) (x0 : Nat) (x1 : Int32)  (px0 : K x0 = some (.inl 11))  : ∀ (k : Nat) (x2 : Int32), f11_isHidden_L2 K n x0 x1 h  k x2 = some v → Go Γ (0, 0) 2 [(0, .ref x0), (1, .int x1), (2, .int x2)] [] sz K h := by
  intro k
  induction k with
  | zero => intro x2 E; cases E
  | succ k ih =>
    intro x2 E
    unfold f11_isHidden_L2 at E
    refine g_iload_n (n := 2) X (by decide +kernel) 2 rfl ?_
    refine g_iload_n (n := 1) X (by decide +kernel) 1 rfl ?_
    rcases it_E E with ⟨c1, E⟩ | ⟨c1, E⟩
    · refine g_icmp_ge_t (off := 56) (tgt := 60) X (by decide +kernel) (by decide) c1 ?_
      refine g_iconst (n := 0) (x := (0 : Int32)) X (by decide +kernel) (by decide) ?_
      obtain rfl := Option.some.inj E
      exact g_zreturn X (by decide +kernel) rfl
    · refine g_icmp_ge_f (off := 56) (tgt := 60) X (by decide +kernel) (by decide) c1 ?_
      refine g_aload_n (n := 0) X (by decide +kernel) 0 rfl ?_
      refine g_iload_n (n := 2) X (by decide +kernel) 2 rfl ?_
      refine g_iconst (n := 0) (x := (0 : Int32)) X (by decide +kernel) (by decide) ?_
      obtain ⟨y3, e2, E⟩ := bp_E E
      refine g_callV1 (st := []) X [.int x2, .int (0 : Int32)] (by decide +kernel) ml11_360 px0 rfl rfl (by decide) (Nat.le_of_ble_eq_true rfl) (c11_routeAt hK x0 x2 (0 : Int32) h px0 e2) ?_
      refine g_aload_n (n := 0) X (by decide +kernel) 0 rfl ?_
      refine g_iload_n (n := 1) X (by decide +kernel) 1 rfl ?_
      refine g_iconst (n := 0) (x := (0 : Int32)) X (by decide +kernel) (by decide) ?_
      obtain ⟨y5, e4, E⟩ := bp_E E
      refine g_callV1 (st := [.int y3]) X [.int x1, .int (0 : Int32)] (by decide +kernel) ml11_360 px0 rfl rfl (by decide) (Nat.le_of_ble_eq_true rfl) (c11_routeAt hK x0 x1 (0 : Int32) h px0 e4) ?_
      rcases it_E E with ⟨c6, E⟩ | ⟨c6, E⟩
      · refine g_icmp_ne_f (off := 35) (tgt := 54) X (by decide +kernel) (by decide) (fun z => z c6) ?_
        refine g_aload_n (n := 0) X (by decide +kernel) 0 rfl ?_
        refine g_iload_n (n := 2) X (by decide +kernel) 2 rfl ?_
        refine g_iconst (n := 1) (x := (1 : Int32)) X (by decide +kernel) (by decide) ?_
        obtain ⟨y8, e7, E⟩ := bp_E E
        refine g_callV1 (st := []) X [.int x2, .int (1 : Int32)] (by decide +kernel) ml11_360 px0 rfl rfl (by decide) (Nat.le_of_ble_eq_true rfl) (c11_routeAt hK x0 x2 (1 : Int32) h px0 e7) ?_
        refine g_aload_n (n := 0) X (by decide +kernel) 0 rfl ?_
        refine g_iload_n (n := 1) X (by decide +kernel) 1 rfl ?_
        refine g_iconst (n := 1) (x := (1 : Int32)) X (by decide +kernel) (by decide) ?_
        obtain ⟨y10, e9, E⟩ := bp_E E
        refine g_callV1 (st := [.int y8]) X [.int x1, .int (1 : Int32)] (by decide +kernel) ml11_360 px0 rfl rfl (by decide) (Nat.le_of_ble_eq_true rfl) (c11_routeAt hK x0 x1 (1 : Int32) h px0 e9) ?_
        rcases it_E E with ⟨c11, E⟩ | ⟨c11, E⟩
        · refine g_icmp_ne_f (off := 20) (tgt := 54) X (by decide +kernel) (by decide) (fun z => z c11) ?_
          refine g_aload_n (n := 0) X (by decide +kernel) 0 rfl ?_
          refine g_iload_n (n := 2) X (by decide +kernel) 2 rfl ?_
          refine g_iconst (n := 2) (x := (2 : Int32)) X (by decide +kernel) (by decide) ?_
          obtain ⟨y13, e12, E⟩ := bp_E E
          refine g_callV1 (st := []) X [.int x2, .int (2 : Int32)] (by decide +kernel) ml11_360 px0 rfl rfl (by decide) (Nat.le_of_ble_eq_true rfl) (c11_routeAt hK x0 x2 (2 : Int32) h px0 e12) ?_
          refine g_aload_n (n := 0) X (by decide +kernel) 0 rfl ?_
          refine g_iload_n (n := 1) X (by decide +kernel) 1 rfl ?_
          refine g_iconst (n := 2) (x := (2 : Int32)) X (by decide +kernel) (by decide) ?_
          obtain ⟨y15, e14, E⟩ := bp_E E
          refine g_callV1 (st := [.int y13]) X [.int x1, .int (2 : Int32)] (by decide +kernel) ml11_360 px0 rfl rfl (by decide) (Nat.le_of_ble_eq_true rfl) (c11_routeAt hK x0 x1 (2 : Int32) h px0 e14) ?_
          rcases it_E E with ⟨c16, E⟩ | ⟨c16, E⟩
          · refine g_icmp_ne_f (off := 5) (tgt := 54) X (by decide +kernel) (by decide) (fun z => z c16) ?_
            refine g_iconst (n := 1) (x := (1 : Int32)) X (by decide +kernel) (by decide) ?_
            obtain rfl := Option.some.inj E
            exact g_zreturn X (by decide +kernel) rfl
          · refine g_icmp_ne_t (off := 5) (tgt := 54) X (by decide +kernel) (by decide) c16 ?_
            obtain ⟨x2_17, ex2_17, E⟩ := lt_E E
            refine s_iinc (i := 2) (n := 1) (y := x2_17) X (by decide +kernel) 2 rfl (by decide) ex2_17 (ls_next (by decide) (Or.inr rfl) (ls_next (by decide) (Or.inr rfl) (ls_here ls_end))) ?_
            refine g_goto (off := -55) (tgt := 2) X (by decide +kernel) (by decide) ?_
            exact ih x2_17  E
        · refine g_icmp_ne_t (off := 20) (tgt := 54) X (by decide +kernel) (by decide) c11 ?_
          obtain ⟨x2_18, ex2_18, E⟩ := lt_E E
          refine s_iinc (i := 2) (n := 1) (y := x2_18) X (by decide +kernel) 2 rfl (by decide) ex2_18 (ls_next (by decide) (Or.inr rfl) (ls_next (by decide) (Or.inr rfl) (ls_here ls_end))) ?_
          refine g_goto (off := -55) (tgt := 2) X (by decide +kernel) (by decide) ?_
          exact ih x2_18  E
      · refine g_icmp_ne_t (off := 35) (tgt := 54) X (by decide +kernel) (by decide) c6 ?_
        obtain ⟨x2_19, ex2_19, E⟩ := lt_E E
        refine s_iinc (i := 2) (n := 1) (y := x2_19) X (by decide +kernel) 2 rfl (by decide) ex2_19 (ls_next (by decide) (Or.inr rfl) (ls_next (by decide) (Or.inr rfl) (ls_here ls_end))) ?_
        refine g_goto (off := -55) (tgt := 2) X (by decide +kernel) (by decide) ?_
        exact ih x2_19  E
set_option maxHeartbeats 4000000 in
set_option maxRecDepth 20000 in
theorem c11_isHidden {sp : Sp} {K : Ly} {sz n : Nat} (hK : LyOk K) (o : Nat) (a1 : Int32) (h : Hp) (ho : K o = some (.inl 11)) {v : Int32} (E : f11_isHidden K n o a1 h = some v) : Con sp y11_isHidden prog_13_method_125_code 3 (some (.boolean)) 3 0 0 [.ref o, .int a1] sz K h (some (.int v)) sz K h := by
  refine Con.of (by decide) (Nat.le_of_ble_eq_true rfl) (fun Γ X _ => ?_)
  show Go Γ (0, 0) 0 [(0, .ref o), (1, .int a1)] [] sz K h
  unfold f11_isHidden at E
  refine g_iconst (n := 0) (x := (0 : Int32)) X (by decide +kernel) (by decide) ?_
  refine s_istore_n (n := 2) (i := 2) X (by decide +kernel) rfl (by decide) rfl (ls_next (by decide) (Or.inr rfl) (ls_next (by decide) (Or.inr rfl) (ls_ins ls_end))) ?_
  exact w11_isHidden_L2 X hK o a1 ho n (0 : Int32) E
-- AskedNamesModel.isServed
def f11_isServed_L2 (K : Ly) (n : Nat) (x0 : Nat) (x1 : Int32) (h : Hp)  : Nat → Int32 → Option (Int32)
  | 0, _ => none
  | k + 1, x2 =>
    bp (f11_serves K n x0 h) fun y2 =>
    if y2 ≤ x2 then (
    some (0 : Int32))
    else (
    if x2 = x1 then (
    lt (x2 + (1 : Int32)) fun x2_5 =>
    f11_isServed_L2 K n x0 x1 h  k x2_5)
    else (
    bp (f11_serveAt K n x0 x2 (0 : Int32) h) fun y7 =>
    bp (f11_serveAt K n x0 x1 (0 : Int32) h) fun y9 =>
    if y7 = y9 then (
    bp (f11_serveAt K n x0 x2 (1 : Int32) h) fun y12 =>
    bp (f11_serveAt K n x0 x1 (1 : Int32) h) fun y14 =>
    bp (f11_isBeginning K n y12 y14 h) fun y16 =>
    if y16 = 0 then (
    lt (x2 + (1 : Int32)) fun x2_18 =>
    f11_isServed_L2 K n x0 x1 h  k x2_18)
    else (
    some (1 : Int32)))
    else (
    lt (x2 + (1 : Int32)) fun x2_19 =>
    f11_isServed_L2 K n x0 x1 h  k x2_19)))
def f11_isServed (K : Ly) (n : Nat) (o : Nat) (a1 : Int32) (h : Hp) : Option (Int32) :=
    f11_isServed_L2 K n o a1 h n (0 : Int32)
set_option maxHeartbeats 4000000 in
set_option maxRecDepth 20000 in
theorem w11_isServed_L2 {Γ : CT} {sp : Sp} {K : Ly} {sz n : Nat} {v : Int32} {h : Hp}  (X : Ok Γ sp prog_13_method_126_code Rc11 3 (some (.boolean)) 3 (some (.int v)) sz K h) (hK : LyOk K) (x0 : Nat) (x1 : Int32)  (px0 : K x0 = some (.inl 11))  : ∀ (k : Nat) (x2 : Int32), f11_isServed_L2 K n x0 x1 h  k x2 = some v → Go Γ (0, 0) 2 [(0, .ref x0), (1, .int x1), (2, .int x2)] [] sz K h := by
  intro k
  induction k with
  | zero => intro x2 E; cases E
  | succ k ih =>
    intro x2 E
    unfold f11_isServed_L2 at E
    refine g_iload_n (n := 2) X (by decide +kernel) 2 rfl ?_
    refine g_aload_n (n := 0) X (by decide +kernel) 0 rfl ?_
    obtain ⟨y2, e1, E⟩ := bp_E E
    refine g_callV1 (st := [.int x2]) X [] (by decide +kernel) ml11_366 px0 rfl rfl (by decide) (Nat.le_of_ble_eq_true rfl) (c11_serves hK x0 h px0 e1) ?_
    rcases it_E E with ⟨c3, E⟩ | ⟨c3, E⟩
    · refine g_icmp_ge_t (off := 49) (tgt := 56) X (by decide +kernel) (by decide) c3 ?_
      refine g_iconst (n := 0) (x := (0 : Int32)) X (by decide +kernel) (by decide) ?_
      obtain rfl := Option.some.inj E
      exact g_zreturn X (by decide +kernel) rfl
    · refine g_icmp_ge_f (off := 49) (tgt := 56) X (by decide +kernel) (by decide) c3 ?_
      refine g_iload_n (n := 2) X (by decide +kernel) 2 rfl ?_
      refine g_iload_n (n := 1) X (by decide +kernel) 1 rfl ?_
      rcases it_E E with ⟨c4, E⟩ | ⟨c4, E⟩
      · refine g_icmp_eq_t (off := 38) (tgt := 50) X (by decide +kernel) (by decide) c4 ?_
        obtain ⟨x2_5, ex2_5, E⟩ := lt_E E
        refine s_iinc (i := 2) (n := 1) (y := x2_5) X (by decide +kernel) 2 rfl (by decide) ex2_5 (ls_next (by decide) (Or.inr rfl) (ls_next (by decide) (Or.inr rfl) (ls_here ls_end))) ?_
        refine g_goto (off := -51) (tgt := 2) X (by decide +kernel) (by decide) ?_
        exact ih x2_5  E
      · refine g_icmp_eq_f (off := 38) (tgt := 50) X (by decide +kernel) (by decide) c4 ?_
        refine g_aload_n (n := 0) X (by decide +kernel) 0 rfl ?_
        refine g_iload_n (n := 2) X (by decide +kernel) 2 rfl ?_
        refine g_iconst (n := 0) (x := (0 : Int32)) X (by decide +kernel) (by decide) ?_
        obtain ⟨y7, e6, E⟩ := bp_E E
        refine g_callV1 (st := []) X [.int x2, .int (0 : Int32)] (by decide +kernel) ml11_369 px0 rfl rfl (by decide) (Nat.le_of_ble_eq_true rfl) (c11_serveAt hK x0 x2 (0 : Int32) h px0 e6) ?_
        refine g_aload_n (n := 0) X (by decide +kernel) 0 rfl ?_
        refine g_iload_n (n := 1) X (by decide +kernel) 1 rfl ?_
        refine g_iconst (n := 0) (x := (0 : Int32)) X (by decide +kernel) (by decide) ?_
        obtain ⟨y9, e8, E⟩ := bp_E E
        refine g_callV1 (st := [.int y7]) X [.int x1, .int (0 : Int32)] (by decide +kernel) ml11_369 px0 rfl rfl (by decide) (Nat.le_of_ble_eq_true rfl) (c11_serveAt hK x0 x1 (0 : Int32) h px0 e8) ?_
        rcases it_E E with ⟨c10, E⟩ | ⟨c10, E⟩
        · refine g_icmp_ne_f (off := 23) (tgt := 50) X (by decide +kernel) (by decide) (fun z => z c10) ?_
          refine g_aload_n (n := 0) X (by decide +kernel) 0 rfl ?_
          refine g_iload_n (n := 2) X (by decide +kernel) 2 rfl ?_
          refine g_iconst (n := 1) (x := (1 : Int32)) X (by decide +kernel) (by decide) ?_
          obtain ⟨y12, e11, E⟩ := bp_E E
          refine g_callV1 (st := []) X [.int x2, .int (1 : Int32)] (by decide +kernel) ml11_369 px0 rfl rfl (by decide) (Nat.le_of_ble_eq_true rfl) (c11_serveAt hK x0 x2 (1 : Int32) h px0 e11) ?_
          refine g_aload_n (n := 0) X (by decide +kernel) 0 rfl ?_
          refine g_iload_n (n := 1) X (by decide +kernel) 1 rfl ?_
          refine g_iconst (n := 1) (x := (1 : Int32)) X (by decide +kernel) (by decide) ?_
          obtain ⟨y14, e13, E⟩ := bp_E E
          refine g_callV1 (st := [.int y12]) X [.int x1, .int (1 : Int32)] (by decide +kernel) ml11_369 px0 rfl rfl (by decide) (Nat.le_of_ble_eq_true rfl) (c11_serveAt hK x0 x1 (1 : Int32) h px0 e13) ?_
          obtain ⟨y16, e15, E⟩ := bp_E E
          refine g_callS1 (st := []) X [.int y12, .int y14] (by decide +kernel) ml11_363 (by decide) (Nat.le_of_ble_eq_true rfl) (c11_isBeginning hK y12 y14 h  e15) ?_
          rcases it_E E with ⟨c17, E⟩ | ⟨c17, E⟩
          · refine g_if_eq_t (off := 5) (tgt := 50) X (by decide +kernel) (by decide) c17 ?_
            obtain ⟨x2_18, ex2_18, E⟩ := lt_E E
            refine s_iinc (i := 2) (n := 1) (y := x2_18) X (by decide +kernel) 2 rfl (by decide) ex2_18 (ls_next (by decide) (Or.inr rfl) (ls_next (by decide) (Or.inr rfl) (ls_here ls_end))) ?_
            refine g_goto (off := -51) (tgt := 2) X (by decide +kernel) (by decide) ?_
            exact ih x2_18  E
          · refine g_if_eq_f (off := 5) (tgt := 50) X (by decide +kernel) (by decide) c17 ?_
            refine g_iconst (n := 1) (x := (1 : Int32)) X (by decide +kernel) (by decide) ?_
            obtain rfl := Option.some.inj E
            exact g_zreturn X (by decide +kernel) rfl
        · refine g_icmp_ne_t (off := 23) (tgt := 50) X (by decide +kernel) (by decide) c10 ?_
          obtain ⟨x2_19, ex2_19, E⟩ := lt_E E
          refine s_iinc (i := 2) (n := 1) (y := x2_19) X (by decide +kernel) 2 rfl (by decide) ex2_19 (ls_next (by decide) (Or.inr rfl) (ls_next (by decide) (Or.inr rfl) (ls_here ls_end))) ?_
          refine g_goto (off := -51) (tgt := 2) X (by decide +kernel) (by decide) ?_
          exact ih x2_19  E
set_option maxHeartbeats 4000000 in
set_option maxRecDepth 20000 in
theorem c11_isServed {sp : Sp} {K : Ly} {sz n : Nat} (hK : LyOk K) (o : Nat) (a1 : Int32) (h : Hp) (ho : K o = some (.inl 11)) {v : Int32} (E : f11_isServed K n o a1 h = some v) : Con sp y11_isServed prog_13_method_126_code 3 (some (.boolean)) 3 0 0 [.ref o, .int a1] sz K h (some (.int v)) sz K h := by
  refine Con.of (by decide) (Nat.le_of_ble_eq_true rfl) (fun Γ X _ => ?_)
  show Go Γ (0, 0) 0 [(0, .ref o), (1, .int a1)] [] sz K h
  unfold f11_isServed at E
  refine g_iconst (n := 0) (x := (0 : Int32)) X (by decide +kernel) (by decide) ?_
  refine s_istore_n (n := 2) (i := 2) X (by decide +kernel) rfl (by decide) rfl (ls_next (by decide) (Or.inr rfl) (ls_next (by decide) (Or.inr rfl) (ls_ins ls_end))) ?_
  exact w11_isServed_L2 X hK o a1 ho n (0 : Int32) E
-- AskedNamesModel.edges
def f11_edges_J207 (K : Ly) (n : Nat) (r34 : Int32 → Int32 → Option (Int32 × Hp)) (x0 : Nat) (x2 : Int32) (x4 : Int32) (s0 : Int32) (s1 : Int32) (h : Hp) : Option (Int32 × Hp) :=
    lt (s0 ||| s1) fun x3_46 =>
    lt (x4 + (1 : Int32)) fun x4_47 =>
    r34 x3_46 x4_47
def f11_edges_J202 (K : Ly) (n : Nat) (r34 : Int32 → Int32 → Option (Int32 × Hp)) (x0 : Nat) (x2 : Int32) (x4 : Int32) (s0 : Int32) (s1 : Int32) (s2 : Int32) (h : Hp) : Option (Int32 × Hp) :=
    f11_edges_J207 K n (r34) x0 x2 x4 s0 (s1 <<< (s2 &&& 31)) h
def f11_edges_J177 (K : Ly) (n : Nat) (r34 : Int32 → Int32 → Option (Int32 × Hp)) (x0 : Nat) (x2 : Int32) (x3 : Int32) (x4 : Int32) (s0 : Int32) (h : Hp) : Option (Int32 × Hp) :=
    if s0 = 0 then (
    f11_edges_J207 K n (r34) x0 x2 x4 x3 (0 : Int32) h)
    else (
    if x2 = 0 then (
    bp (f11_serveAt K n x0 x4 (0 : Int32) h) fun y45 =>
    f11_edges_J202 K n (r34) x0 x2 x4 x3 (1 : Int32) y45 h)
    else (
    f11_edges_J202 K n (r34) x0 x2 x4 x3 (1 : Int32) x4 h))
def f11_edges_J90 (K : Ly) (n : Nat) (r34 : Int32 → Int32 → Option (Int32 × Hp)) (x0 : Nat) (x2 : Int32) (x3 : Int32) (x4 : Int32) (h : Hp) : Option (Int32 × Hp) :=
    f11_edges_J177 K n (r34) x0 x2 x3 x4 (0 : Int32) h
def f11_edges_J121 (K : Ly) (n : Nat) (r34 : Int32 → Int32 → Option (Int32 × Hp)) (x0 : Nat) (x2 : Int32) (x3 : Int32) (x4 : Int32) (h : Hp) : Option (Int32 × Hp) :=
    f11_edges_J177 K n (r34) x0 x2 x3 x4 (0 : Int32) h
def f11_edges_J176 (K : Ly) (n : Nat) (r34 : Int32 → Int32 → Option (Int32 × Hp)) (x0 : Nat) (x2 : Int32) (x3 : Int32) (x4 : Int32) (h : Hp) : Option (Int32 × Hp) :=
    f11_edges_J177 K n (r34) x0 x2 x3 x4 (0 : Int32) h
def f11_edges_L34 (K : Ly) (n : Nat) (x0 : Nat) (x2 : Int32) (h : Hp)  : Nat → Int32 → Int32 → Option (Int32 × Hp)
  | 0, _, _ => none
  | k + 1, x3, x4 =>
    if (12 : Int32) ≤ x4 then (
    some (x3, h))
    else (
    if x2 = 0 then (
    bp (f11_serves K n x0 h) fun y12 =>
    f11_edges_J177 K n (f11_edges_L34 K n x0 x2 h  k) x0 x2 x3 x4 (if y12 ≤ x4 then (0 : Int32) else (1 : Int32)) h)
    else (
    if x2 = (1 : Int32) then (
    bp (f11_isNode K n x0 x4 h) fun y16 =>
    if y16 = 0 then (
    f11_edges_J90 K n (f11_edges_L34 K n x0 x2 h  k) x0 x2 x3 x4 h)
    else (
    bp (f11_linksAt K n x0 x4 h) fun y19 =>
    f11_edges_J177 K n (f11_edges_L34 K n x0 x2 h  k) x0 x2 x3 x4 (if y19 = (1 : Int32) then (1 : Int32) else (0 : Int32)) h))
    else (
    if x2 = (4 : Int32) then (
    bp (f11_serves K n x0 h) fun y23 =>
    if y23 ≤ x4 then (
    f11_edges_J121 K n (f11_edges_L34 K n x0 x2 h  k) x0 x2 x3 x4 h)
    else (
    bp (f11_isServed K n x0 x4 h) fun y26 =>
    f11_edges_J177 K n (f11_edges_L34 K n x0 x2 h  k) x0 x2 x3 x4 (if y26 = 0 then (0 : Int32) else (1 : Int32)) h))
    else (
    bp (f11_routes K n x0 h) fun y29 =>
    if y29 ≤ x4 then (
    f11_edges_J176 K n (f11_edges_L34 K n x0 x2 h  k) x0 x2 x3 x4 h)
    else (
    if x2 = (2 : Int32) then (
    bp (f11_routeAt K n x0 x4 (0 : Int32) h) fun y33 =>
    bp (f11_routeAt K n x0 x4 (2 : Int32) h) fun y35 =>
    bp (f11_isUp K n x0 y33 y35 h) fun y37 =>
    f11_edges_J177 K n (f11_edges_L34 K n x0 x2 h  k) x0 x2 x3 x4 (if y37 = 0 then (1 : Int32) else (0 : Int32)) h)
    else (
    bp (f11_isHidden K n x0 x4 h) fun y40 =>
    f11_edges_J177 K n (f11_edges_L34 K n x0 x2 h  k) x0 x2 x3 x4 (if y40 = 0 then (0 : Int32) else (1 : Int32)) h))))))
def f11_edges (K : Ly) (n : Nat) (o : Nat) (a1 : Int32) (a2 : Int32) (h : Hp) : Option (Int32 × Hp) :=
    lt (sI h o 0 (0 : Int32)) fun h1 =>
    bd (f11_hasNet K n o a1 h1) fun y4 h3 =>
    if y4 = 0 then (
    some ((-1 : Int32), h3))
    else (
    if (f11_in a2 (0 : Int32) (4 : Int32)) = 0 then (
    some ((-1 : Int32), h3))
    else (
    bp (f11_begin K n o (-1 : Int32) h3) fun h8 =>
    f11_edges_L34 K n o a2 h8 n (0 : Int32) (0 : Int32)))
set_option maxHeartbeats 4000000 in
set_option maxRecDepth 20000 in
theorem w11_edges_J207 {Γ : CT} {sp : Sp} {K : Ly} {sz n : Nat} {v : Int32} {hf : Hp}  {r34 : Int32 → Int32 → Option (Int32 × Hp)}  (X : Ok Γ sp prog_13_method_127_code Rc11 6 (some (.int)) 5 (some (.int v)) sz K hf) (hK : LyOk K) (x0 : Nat) (x2 : Int32) (x4 : Int32) (s0 : Int32) (s1 : Int32) (h : Hp) (hr34 : ∀ (x3 : Int32) (x4 : Int32), r34 x3 x4 = some (v, hf) → Go Γ (0, 0) 34 [(0, .ref x0), (2, .int x2), (3, .int x3), (4, .int x4)] [] sz K h) (px0 : K x0 = some (.inl 11)) (E : f11_edges_J207 K n r34 x0 x2 x4 s0 s1 h = some (v, hf)) : Go Γ (0, 0) 207 [(0, .ref x0), (2, .int x2), (4, .int x4)] [.int s1, .int s0] sz K h := by
  unfold f11_edges_J207 at E
  refine g_ior X (by decide +kernel) ?_
  obtain ⟨x3_46, ex3_46, E⟩ := lt_E E
  refine s_istore_n (n := 3) (i := 3) X (by decide +kernel) rfl (by decide) ex3_46 (ls_next (by decide) (Or.inr rfl) (ls_next (by decide) (Or.inr rfl) (ls_ins (ls_next (by decide) (Or.inr rfl) ls_end)))) ?_
  obtain ⟨x4_47, ex4_47, E⟩ := lt_E E
  refine s_iinc (i := 4) (n := 1) (y := x4_47) X (by decide +kernel) 3 rfl (by decide) ex4_47 (ls_next (by decide) (Or.inr rfl) (ls_next (by decide) (Or.inr rfl) (ls_next (by decide) (Or.inr rfl) (ls_here ls_end)))) ?_
  refine g_goto (off := -178) (tgt := 34) X (by decide +kernel) (by decide) ?_
  exact hr34 x3_46 x4_47  E
set_option maxHeartbeats 4000000 in
set_option maxRecDepth 20000 in
theorem w11_edges_J202 {Γ : CT} {sp : Sp} {K : Ly} {sz n : Nat} {v : Int32} {hf : Hp}  {r34 : Int32 → Int32 → Option (Int32 × Hp)}  (X : Ok Γ sp prog_13_method_127_code Rc11 6 (some (.int)) 5 (some (.int v)) sz K hf) (hK : LyOk K) (x0 : Nat) (x2 : Int32) (x4 : Int32) (s0 : Int32) (s1 : Int32) (s2 : Int32) (h : Hp) (hr34 : ∀ (x3 : Int32) (x4 : Int32), r34 x3 x4 = some (v, hf) → Go Γ (0, 0) 34 [(0, .ref x0), (2, .int x2), (3, .int x3), (4, .int x4)] [] sz K h) (px0 : K x0 = some (.inl 11)) (E : f11_edges_J202 K n r34 x0 x2 x4 s0 s1 s2 h = some (v, hf)) : Go Γ (0, 0) 202 [(0, .ref x0), (2, .int x2), (4, .int x4)] [.int s2, .int s1, .int s0] sz K h := by
  unfold f11_edges_J202 at E
  refine g_ishl X (by decide +kernel) ?_
  refine g_goto (off := 4) (tgt := 207) X (by decide +kernel) (by decide) ?_
  exact w11_edges_J207 X hK x0 x2 x4 s0 (s1 <<< (s2 &&& 31)) h hr34 px0 E
set_option maxHeartbeats 4000000 in
set_option maxRecDepth 20000 in
theorem w11_edges_J177 {Γ : CT} {sp : Sp} {K : Ly} {sz n : Nat} {v : Int32} {hf : Hp}  {r34 : Int32 → Int32 → Option (Int32 × Hp)}  (X : Ok Γ sp prog_13_method_127_code Rc11 6 (some (.int)) 5 (some (.int v)) sz K hf) (hK : LyOk K) (x0 : Nat) (x2 : Int32) (x3 : Int32) (x4 : Int32) (s0 : Int32) (h : Hp) (hr34 : ∀ (x3 : Int32) (x4 : Int32), r34 x3 x4 = some (v, hf) → Go Γ (0, 0) 34 [(0, .ref x0), (2, .int x2), (3, .int x3), (4, .int x4)] [] sz K h) (px0 : K x0 = some (.inl 11)) (E : f11_edges_J177 K n r34 x0 x2 x3 x4 s0 h = some (v, hf)) : Go Γ (0, 0) 177 [(0, .ref x0), (2, .int x2), (3, .int x3), (4, .int x4)] [.int s0] sz K h := by
  unfold f11_edges_J177 at E
  refine s_istore (i := 5) X (by decide +kernel) (by decide) rfl (ls_next (by decide) (Or.inr rfl) (ls_next (by decide) (Or.inr rfl) (ls_next (by decide) (Or.inr rfl) (ls_next (by decide) (Or.inr rfl) (ls_ins ls_end))))) ?_
  refine g_iload_n (n := 3) X (by decide +kernel) 2 rfl ?_
  refine g_iload (n := 5) X (by decide +kernel) 4 rfl ?_
  rcases it_E E with ⟨c42, E⟩ | ⟨c42, E⟩
  · refine g_if_eq_t (off := 24) (tgt := 206) X (by decide +kernel) (by decide) c42 ?_
    refine g_iconst (n := 0) (x := (0 : Int32)) X (by decide +kernel) (by decide) ?_
    refine g_sub [0, 1, 3] rfl ?_
    exact w11_edges_J207 X hK x0 x2 x4 x3 (0 : Int32) h hr34 px0 E
  · refine g_if_eq_f (off := 24) (tgt := 206) X (by decide +kernel) (by decide) c42 ?_
    refine g_iconst (n := 1) (x := (1 : Int32)) X (by decide +kernel) (by decide) ?_
    refine g_iload_n (n := 2) X (by decide +kernel) 1 rfl ?_
    rcases it_E E with ⟨c43, E⟩ | ⟨c43, E⟩
    · refine g_if_ne_f (off := 13) (tgt := 200) X (by decide +kernel) (by decide) (fun z => z c43) ?_
      refine g_aload_n (n := 0) X (by decide +kernel) 0 rfl ?_
      refine g_iload (n := 4) X (by decide +kernel) 3 rfl ?_
      refine g_iconst (n := 0) (x := (0 : Int32)) X (by decide +kernel) (by decide) ?_
      obtain ⟨y45, e44, E⟩ := bp_E E
      refine g_callV1 (st := [.int (1 : Int32), .int x3]) X [.int x4, .int (0 : Int32)] (by decide +kernel) ml11_369 px0 rfl rfl (by decide) (Nat.le_of_ble_eq_true rfl) (c11_serveAt hK x0 x4 (0 : Int32) h px0 e44) ?_
      refine g_goto (off := 5) (tgt := 202) X (by decide +kernel) (by decide) ?_
      refine g_sub [0, 1, 3] rfl ?_
      exact w11_edges_J202 X hK x0 x2 x4 x3 (1 : Int32) y45 h hr34 px0 E
    · refine g_if_ne_t (off := 13) (tgt := 200) X (by decide +kernel) (by decide) c43 ?_
      refine g_iload (n := 4) X (by decide +kernel) 3 rfl ?_
      refine g_sub [0, 1, 3] rfl ?_
      exact w11_edges_J202 X hK x0 x2 x4 x3 (1 : Int32) x4 h hr34 px0 E
set_option maxHeartbeats 4000000 in
set_option maxRecDepth 20000 in
theorem w11_edges_J90 {Γ : CT} {sp : Sp} {K : Ly} {sz n : Nat} {v : Int32} {hf : Hp}  {r34 : Int32 → Int32 → Option (Int32 × Hp)}  (X : Ok Γ sp prog_13_method_127_code Rc11 6 (some (.int)) 5 (some (.int v)) sz K hf) (hK : LyOk K) (x0 : Nat) (x2 : Int32) (x3 : Int32) (x4 : Int32) (h : Hp) (hr34 : ∀ (x3 : Int32) (x4 : Int32), r34 x3 x4 = some (v, hf) → Go Γ (0, 0) 34 [(0, .ref x0), (2, .int x2), (3, .int x3), (4, .int x4)] [] sz K h) (px0 : K x0 = some (.inl 11)) (E : f11_edges_J90 K n r34 x0 x2 x3 x4 h = some (v, hf)) : Go Γ (0, 0) 90 [(0, .ref x0), (2, .int x2), (3, .int x3), (4, .int x4)] [] sz K h := by
  unfold f11_edges_J90 at E
  refine g_iconst (n := 0) (x := (0 : Int32)) X (by decide +kernel) (by decide) ?_
  refine g_goto (off := 86) (tgt := 177) X (by decide +kernel) (by decide) ?_
  exact w11_edges_J177 X hK x0 x2 x3 x4 (0 : Int32) h hr34 px0 E
set_option maxHeartbeats 4000000 in
set_option maxRecDepth 20000 in
theorem w11_edges_J121 {Γ : CT} {sp : Sp} {K : Ly} {sz n : Nat} {v : Int32} {hf : Hp}  {r34 : Int32 → Int32 → Option (Int32 × Hp)}  (X : Ok Γ sp prog_13_method_127_code Rc11 6 (some (.int)) 5 (some (.int v)) sz K hf) (hK : LyOk K) (x0 : Nat) (x2 : Int32) (x3 : Int32) (x4 : Int32) (h : Hp) (hr34 : ∀ (x3 : Int32) (x4 : Int32), r34 x3 x4 = some (v, hf) → Go Γ (0, 0) 34 [(0, .ref x0), (2, .int x2), (3, .int x3), (4, .int x4)] [] sz K h) (px0 : K x0 = some (.inl 11)) (E : f11_edges_J121 K n r34 x0 x2 x3 x4 h = some (v, hf)) : Go Γ (0, 0) 121 [(0, .ref x0), (2, .int x2), (3, .int x3), (4, .int x4)] [] sz K h := by
  unfold f11_edges_J121 at E
  refine g_iconst (n := 0) (x := (0 : Int32)) X (by decide +kernel) (by decide) ?_
  refine g_goto (off := 55) (tgt := 177) X (by decide +kernel) (by decide) ?_
  exact w11_edges_J177 X hK x0 x2 x3 x4 (0 : Int32) h hr34 px0 E
set_option maxHeartbeats 4000000 in
set_option maxRecDepth 20000 in
theorem w11_edges_J176 {Γ : CT} {sp : Sp} {K : Ly} {sz n : Nat} {v : Int32} {hf : Hp}  {r34 : Int32 → Int32 → Option (Int32 × Hp)}  (X : Ok Γ sp prog_13_method_127_code Rc11 6 (some (.int)) 5 (some (.int v)) sz K hf) (hK : LyOk K) (x0 : Nat) (x2 : Int32) (x3 : Int32) (x4 : Int32) (h : Hp) (hr34 : ∀ (x3 : Int32) (x4 : Int32), r34 x3 x4 = some (v, hf) → Go Γ (0, 0) 34 [(0, .ref x0), (2, .int x2), (3, .int x3), (4, .int x4)] [] sz K h) (px0 : K x0 = some (.inl 11)) (E : f11_edges_J176 K n r34 x0 x2 x3 x4 h = some (v, hf)) : Go Γ (0, 0) 176 [(0, .ref x0), (2, .int x2), (3, .int x3), (4, .int x4)] [] sz K h := by
  unfold f11_edges_J176 at E
  refine g_iconst (n := 0) (x := (0 : Int32)) X (by decide +kernel) (by decide) ?_
  exact w11_edges_J177 X hK x0 x2 x3 x4 (0 : Int32) h hr34 px0 E
set_option maxHeartbeats 4000000 in
set_option maxRecDepth 20000 in
theorem w11_edges_L34 {Γ : CT} {sp : Sp} {K : Ly} {sz n : Nat} {v : Int32} {hf : Hp}  (X : Ok Γ sp prog_13_method_127_code Rc11 6 (some (.int)) 5 (some (.int v)) sz K hf) (hK : LyOk K) (x0 : Nat) (x2 : Int32) (h : Hp) (px0 : K x0 = some (.inl 11))  : ∀ (k : Nat) (x3 : Int32) (x4 : Int32), f11_edges_L34 K n x0 x2 h  k x3 x4 = some (v, hf) → Go Γ (0, 0) 34 [(0, .ref x0), (2, .int x2), (3, .int x3), (4, .int x4)] [] sz K h := by
  intro k
  induction k with
  | zero => intro x3 x4 E; cases E
  | succ k ih =>
    intro x3 x4 E
    unfold f11_edges_L34 at E
    refine g_iload (n := 4) X (by decide +kernel) 3 rfl ?_
    refine g_bipush (n := 12) (x := (12 : Int32)) X (by decide +kernel) (by decide) ?_
    rcases it_E E with ⟨c9, E⟩ | ⟨c9, E⟩
    · refine g_icmp_ge_t (off := 177) (tgt := 215) X (by decide +kernel) (by decide) c9 ?_
      refine g_iload_n (n := 3) X (by decide +kernel) 2 rfl ?_
      obtain ⟨rfl, rfl⟩ := rt_E E
      exact g_ireturn X (by decide +kernel)
    · refine g_icmp_ge_f (off := 177) (tgt := 215) X (by decide +kernel) (by decide) c9 ?_
      refine g_iload_n (n := 2) X (by decide +kernel) 1 rfl ?_
      rcases it_E E with ⟨c10, E⟩ | ⟨c10, E⟩
      · refine g_if_ne_f (off := 20) (tgt := 62) X (by decide +kernel) (by decide) (fun z => z c10) ?_
        refine g_iload (n := 4) X (by decide +kernel) 3 rfl ?_
        refine g_aload_n (n := 0) X (by decide +kernel) 0 rfl ?_
        obtain ⟨y12, e11, E⟩ := bp_E E
        refine g_callV1 (st := [.int x4]) X [] (by decide +kernel) ml11_366 px0 rfl rfl (by decide) (Nat.le_of_ble_eq_true rfl) (c11_serves hK x0 h px0 e11) ?_
        have hJ : Go Γ (0, 0) 177 [(0, .ref x0), (2, .int x2), (3, .int x3), (4, .int x4)] [.int (if y12 ≤ x4 then (0 : Int32) else (1 : Int32))] sz K h := by
          exact w11_edges_J177 X hK x0 x2 x3 x4 (if y12 ≤ x4 then (0 : Int32) else (1 : Int32)) h ih px0 E
        clear E
        by_cases c13 : y12 ≤ x4
        · rw [if_pos c13] at hJ
          refine g_icmp_ge_t (off := 7) (tgt := 58) X (by decide +kernel) (by decide) c13 ?_
          refine g_iconst (n := 0) (x := (0 : Int32)) X (by decide +kernel) (by decide) ?_
          refine g_goto (off := 118) (tgt := 177) X (by decide +kernel) (by decide) ?_
          exact hJ
        · rw [if_neg c13] at hJ
          refine g_icmp_ge_f (off := 7) (tgt := 58) X (by decide +kernel) (by decide) c13 ?_
          refine g_iconst (n := 1) (x := (1 : Int32)) X (by decide +kernel) (by decide) ?_
          refine g_goto (off := 122) (tgt := 177) X (by decide +kernel) (by decide) ?_
          exact hJ
      · refine g_if_ne_t (off := 20) (tgt := 62) X (by decide +kernel) (by decide) c10 ?_
        refine g_iload_n (n := 2) X (by decide +kernel) 1 rfl ?_
        refine g_iconst (n := 1) (x := (1 : Int32)) X (by decide +kernel) (by decide) ?_
        rcases it_E E with ⟨c14, E⟩ | ⟨c14, E⟩
        · refine g_icmp_ne_f (off := 30) (tgt := 94) X (by decide +kernel) (by decide) (fun z => z c14) ?_
          refine g_aload_n (n := 0) X (by decide +kernel) 0 rfl ?_
          refine g_iload (n := 4) X (by decide +kernel) 3 rfl ?_
          obtain ⟨y16, e15, E⟩ := bp_E E
          refine g_callV1 (st := []) X [.int x4] (by decide +kernel) ml11_375 px0 rfl rfl (by decide) (Nat.le_of_ble_eq_true rfl) (c11_isNode hK x0 x4 h px0 e15) ?_
          rcases it_E E with ⟨c17, E⟩ | ⟨c17, E⟩
          · refine g_if_eq_t (off := 17) (tgt := 90) X (by decide +kernel) (by decide) c17 ?_
            exact w11_edges_J90 X hK x0 x2 x3 x4 h ih px0 E
          · refine g_if_eq_f (off := 17) (tgt := 90) X (by decide +kernel) (by decide) c17 ?_
            refine g_aload_n (n := 0) X (by decide +kernel) 0 rfl ?_
            refine g_iload (n := 4) X (by decide +kernel) 3 rfl ?_
            obtain ⟨y19, e18, E⟩ := bp_E E
            refine g_callV1 (st := []) X [.int x4] (by decide +kernel) ml11_629 px0 rfl rfl (by decide) (Nat.le_of_ble_eq_true rfl) (c11_linksAt hK x0 x4 h px0 e18) ?_
            refine g_iconst (n := 1) (x := (1 : Int32)) X (by decide +kernel) (by decide) ?_
            have hJ : Go Γ (0, 0) 177 [(0, .ref x0), (2, .int x2), (3, .int x3), (4, .int x4)] [.int (if y19 = (1 : Int32) then (1 : Int32) else (0 : Int32))] sz K h := by
              exact w11_edges_J177 X hK x0 x2 x3 x4 (if y19 = (1 : Int32) then (1 : Int32) else (0 : Int32)) h ih px0 E
            clear E
            by_cases c20 : y19 = (1 : Int32)
            · rw [if_pos c20] at hJ
              refine g_icmp_ne_f (off := 7) (tgt := 90) X (by decide +kernel) (by decide) (fun z => z c20) ?_
              refine g_iconst (n := 1) (x := (1 : Int32)) X (by decide +kernel) (by decide) ?_
              refine g_goto (off := 90) (tgt := 177) X (by decide +kernel) (by decide) ?_
              exact hJ
            · rw [if_neg c20] at hJ
              refine g_icmp_ne_t (off := 7) (tgt := 90) X (by decide +kernel) (by decide) c20 ?_
              refine g_iconst (n := 0) (x := (0 : Int32)) X (by decide +kernel) (by decide) ?_
              refine g_goto (off := 86) (tgt := 177) X (by decide +kernel) (by decide) ?_
              exact hJ
        · refine g_icmp_ne_t (off := 30) (tgt := 94) X (by decide +kernel) (by decide) c14 ?_
          refine g_iload_n (n := 2) X (by decide +kernel) 1 rfl ?_
          refine g_iconst (n := 4) (x := (4 : Int32)) X (by decide +kernel) (by decide) ?_
          rcases it_E E with ⟨c21, E⟩ | ⟨c21, E⟩
          · refine g_icmp_ne_f (off := 29) (tgt := 125) X (by decide +kernel) (by decide) (fun z => z c21) ?_
            refine g_iload (n := 4) X (by decide +kernel) 3 rfl ?_
            refine g_aload_n (n := 0) X (by decide +kernel) 0 rfl ?_
            obtain ⟨y23, e22, E⟩ := bp_E E
            refine g_callV1 (st := [.int x4]) X [] (by decide +kernel) ml11_366 px0 rfl rfl (by decide) (Nat.le_of_ble_eq_true rfl) (c11_serves hK x0 h px0 e22) ?_
            rcases it_E E with ⟨c24, E⟩ | ⟨c24, E⟩
            · refine g_icmp_ge_t (off := 16) (tgt := 121) X (by decide +kernel) (by decide) c24 ?_
              exact w11_edges_J121 X hK x0 x2 x3 x4 h ih px0 E
            · refine g_icmp_ge_f (off := 16) (tgt := 121) X (by decide +kernel) (by decide) c24 ?_
              refine g_aload_n (n := 0) X (by decide +kernel) 0 rfl ?_
              refine g_iload (n := 4) X (by decide +kernel) 3 rfl ?_
              obtain ⟨y26, e25, E⟩ := bp_E E
              refine g_callV1 (st := []) X [.int x4] (by decide +kernel) ml11_632 px0 rfl rfl (by decide) (Nat.le_of_ble_eq_true rfl) (c11_isServed hK x0 x4 h px0 e25) ?_
              have hJ : Go Γ (0, 0) 177 [(0, .ref x0), (2, .int x2), (3, .int x3), (4, .int x4)] [.int (if y26 = 0 then (0 : Int32) else (1 : Int32))] sz K h := by
                exact w11_edges_J177 X hK x0 x2 x3 x4 (if y26 = 0 then (0 : Int32) else (1 : Int32)) h ih px0 E
              clear E
              by_cases c27 : y26 = 0
              · rw [if_pos c27] at hJ
                refine g_if_eq_t (off := 7) (tgt := 121) X (by decide +kernel) (by decide) c27 ?_
                refine g_iconst (n := 0) (x := (0 : Int32)) X (by decide +kernel) (by decide) ?_
                refine g_goto (off := 55) (tgt := 177) X (by decide +kernel) (by decide) ?_
                exact hJ
              · rw [if_neg c27] at hJ
                refine g_if_eq_f (off := 7) (tgt := 121) X (by decide +kernel) (by decide) c27 ?_
                refine g_iconst (n := 1) (x := (1 : Int32)) X (by decide +kernel) (by decide) ?_
                refine g_goto (off := 59) (tgt := 177) X (by decide +kernel) (by decide) ?_
                exact hJ
          · refine g_icmp_ne_t (off := 29) (tgt := 125) X (by decide +kernel) (by decide) c21 ?_
            refine g_iload (n := 4) X (by decide +kernel) 3 rfl ?_
            refine g_aload_n (n := 0) X (by decide +kernel) 0 rfl ?_
            obtain ⟨y29, e28, E⟩ := bp_E E
            refine g_callV1 (st := [.int x4]) X [] (by decide +kernel) ml11_357 px0 rfl rfl (by decide) (Nat.le_of_ble_eq_true rfl) (c11_routes hK x0 h px0 e28) ?_
            rcases it_E E with ⟨c30, E⟩ | ⟨c30, E⟩
            · refine g_icmp_ge_t (off := 45) (tgt := 176) X (by decide +kernel) (by decide) c30 ?_
              exact w11_edges_J176 X hK x0 x2 x3 x4 h ih px0 E
            · refine g_icmp_ge_f (off := 45) (tgt := 176) X (by decide +kernel) (by decide) c30 ?_
              refine g_iload_n (n := 2) X (by decide +kernel) 1 rfl ?_
              refine g_iconst (n := 2) (x := (2 : Int32)) X (by decide +kernel) (by decide) ?_
              rcases it_E E with ⟨c31, E⟩ | ⟨c31, E⟩
              · refine g_icmp_ne_f (off := 27) (tgt := 163) X (by decide +kernel) (by decide) (fun z => z c31) ?_
                refine g_aload_n (n := 0) X (by decide +kernel) 0 rfl ?_
                refine g_aload_n (n := 0) X (by decide +kernel) 0 rfl ?_
                refine g_iload (n := 4) X (by decide +kernel) 3 rfl ?_
                refine g_iconst (n := 0) (x := (0 : Int32)) X (by decide +kernel) (by decide) ?_
                obtain ⟨y33, e32, E⟩ := bp_E E
                refine g_callV1 (st := [.ref x0]) X [.int x4, .int (0 : Int32)] (by decide +kernel) ml11_360 px0 rfl rfl (by decide) (Nat.le_of_ble_eq_true rfl) (c11_routeAt hK x0 x4 (0 : Int32) h px0 e32) ?_
                refine g_aload_n (n := 0) X (by decide +kernel) 0 rfl ?_
                refine g_iload (n := 4) X (by decide +kernel) 3 rfl ?_
                refine g_iconst (n := 2) (x := (2 : Int32)) X (by decide +kernel) (by decide) ?_
                obtain ⟨y35, e34, E⟩ := bp_E E
                refine g_callV1 (st := [.int y33, .ref x0]) X [.int x4, .int (2 : Int32)] (by decide +kernel) ml11_360 px0 rfl rfl (by decide) (Nat.le_of_ble_eq_true rfl) (c11_routeAt hK x0 x4 (2 : Int32) h px0 e34) ?_
                obtain ⟨y37, e36, E⟩ := bp_E E
                refine g_callV1 (st := []) X [.int y33, .int y35] (by decide +kernel) ml11_408 px0 rfl rfl (by decide) (Nat.le_of_ble_eq_true rfl) (c11_isUp hK x0 y33 y35 h px0 e36) ?_
                have hJ : Go Γ (0, 0) 177 [(0, .ref x0), (2, .int x2), (3, .int x3), (4, .int x4)] [.int (if y37 = 0 then (1 : Int32) else (0 : Int32))] sz K h := by
                  exact w11_edges_J177 X hK x0 x2 x3 x4 (if y37 = 0 then (1 : Int32) else (0 : Int32)) h ih px0 E
                clear E
                by_cases c38 : y37 = 0
                · rw [if_pos c38] at hJ
                  refine g_if_ne_f (off := 19) (tgt := 176) X (by decide +kernel) (by decide) (fun z => z c38) ?_
                  refine g_goto (off := 12) (tgt := 172) X (by decide +kernel) (by decide) ?_
                  refine g_iconst (n := 1) (x := (1 : Int32)) X (by decide +kernel) (by decide) ?_
                  refine g_goto (off := 4) (tgt := 177) X (by decide +kernel) (by decide) ?_
                  exact hJ
                · rw [if_neg c38] at hJ
                  refine g_if_ne_t (off := 19) (tgt := 176) X (by decide +kernel) (by decide) c38 ?_
                  refine g_iconst (n := 0) (x := (0 : Int32)) X (by decide +kernel) (by decide) ?_
                  exact hJ
              · refine g_icmp_ne_t (off := 27) (tgt := 163) X (by decide +kernel) (by decide) c31 ?_
                refine g_aload_n (n := 0) X (by decide +kernel) 0 rfl ?_
                refine g_iload (n := 4) X (by decide +kernel) 3 rfl ?_
                obtain ⟨y40, e39, E⟩ := bp_E E
                refine g_callV1 (st := []) X [.int x4] (by decide +kernel) ml11_635 px0 rfl rfl (by decide) (Nat.le_of_ble_eq_true rfl) (c11_isHidden hK x0 x4 h px0 e39) ?_
                have hJ : Go Γ (0, 0) 177 [(0, .ref x0), (2, .int x2), (3, .int x3), (4, .int x4)] [.int (if y40 = 0 then (0 : Int32) else (1 : Int32))] sz K h := by
                  exact w11_edges_J177 X hK x0 x2 x3 x4 (if y40 = 0 then (0 : Int32) else (1 : Int32)) h ih px0 E
                clear E
                by_cases c41 : y40 = 0
                · rw [if_pos c41] at hJ
                  refine g_if_eq_t (off := 7) (tgt := 176) X (by decide +kernel) (by decide) c41 ?_
                  refine g_iconst (n := 0) (x := (0 : Int32)) X (by decide +kernel) (by decide) ?_
                  exact hJ
                · rw [if_neg c41] at hJ
                  refine g_if_eq_f (off := 7) (tgt := 176) X (by decide +kernel) (by decide) c41 ?_
                  refine g_iconst (n := 1) (x := (1 : Int32)) X (by decide +kernel) (by decide) ?_
                  refine g_goto (off := 4) (tgt := 177) X (by decide +kernel) (by decide) ?_
                  exact hJ
set_option maxHeartbeats 4000000 in
set_option maxRecDepth 20000 in
theorem c11_edges {sp : Sp} {K : Ly} {sz n : Nat} (hK : LyOk K) (o : Nat) (a1 : Int32) (a2 : Int32) (h : Hp) (ho : K o = some (.inl 11)) {v : Int32} {hf : Hp} (E : f11_edges K n o a1 a2 h = some (v, hf)) : Con sp y11_edges prog_13_method_127_code 6 (some (.int)) 5 0 0 [.ref o, .int a1, .int a2] sz K h (some (.int v)) sz K hf := by
  refine Con.of (by decide) (Nat.le_of_ble_eq_true rfl) (fun Γ X _ => ?_)
  show Go Γ (0, 0) 0 [(0, .ref o), (1, .int a1), (2, .int a2)] [] sz K h
  unfold f11_edges at E
  refine g_aload_n (n := 0) X (by decide +kernel) 0 rfl ?_
  refine g_iconst (n := 0) (x := (0 : Int32)) X (by decide +kernel) (by decide) ?_
  obtain ⟨h1, eh1, E⟩ := lt_E E
  refine g_putI X (by decide +kernel) fp11_169 ho eh1 ?_
  refine g_aload_n (n := 0) X (by decide +kernel) 0 rfl ?_
  refine g_iload_n (n := 1) X (by decide +kernel) 1 rfl ?_
  obtain ⟨y4, h3, e2, E⟩ := bd_E E
  refine g_callV1 (st := []) X [.int a1] (by decide +kernel) ml11_372 ho rfl rfl (by decide) (Nat.le_of_ble_eq_true rfl) (c11_hasNet hK o a1 h1 ho e2) ?_
  rcases it_E E with ⟨c5, E⟩ | ⟨c5, E⟩
  · refine g_if_eq_t (off := 12) (tgt := 22) X (by decide +kernel) (by decide) c5 ?_
    refine g_iconst (n := -1) (x := (-1 : Int32)) X (by decide +kernel) (by decide) ?_
    obtain ⟨rfl, rfl⟩ := rt_E E
    exact g_ireturn X (by decide +kernel)
  · refine g_if_eq_f (off := 12) (tgt := 22) X (by decide +kernel) (by decide) c5 ?_
    refine g_iload_n (n := 2) X (by decide +kernel) 2 rfl ?_
    refine g_iconst (n := 0) (x := (0 : Int32)) X (by decide +kernel) (by decide) ?_
    refine g_iconst (n := 4) (x := (4 : Int32)) X (by decide +kernel) (by decide) ?_
    refine g_callS1 (st := []) X [.int a2, .int (0 : Int32), .int (4 : Int32)] (by decide +kernel) ml11_181 (by decide) (Nat.le_of_ble_eq_true rfl) (c11_in hK a2 (0 : Int32) (4 : Int32) h3 ) ?_
    rcases it_E E with ⟨c6, E⟩ | ⟨c6, E⟩
    · refine g_if_ne_f (off := 5) (tgt := 24) X (by decide +kernel) (by decide) (fun z => z c6) ?_
      refine g_iconst (n := -1) (x := (-1 : Int32)) X (by decide +kernel) (by decide) ?_
      obtain ⟨rfl, rfl⟩ := rt_E E
      exact g_ireturn X (by decide +kernel)
    · refine g_if_ne_t (off := 5) (tgt := 24) X (by decide +kernel) (by decide) c6 ?_
      refine g_aload_n (n := 0) X (by decide +kernel) 0 rfl ?_
      refine g_iconst (n := -1) (x := (-1 : Int32)) X (by decide +kernel) (by decide) ?_
      obtain ⟨h8, e7, E⟩ := bp_E E
      refine g_callV0 (st := []) X [.int (-1 : Int32)] (by decide +kernel) ml11_549 ho rfl rfl (by decide) (Nat.le_of_ble_eq_true rfl) (c11_begin hK o (-1 : Int32) h3 ho e7) ?_
      refine g_iconst (n := 0) (x := (0 : Int32)) X (by decide +kernel) (by decide) ?_
      refine s_istore_n (n := 3) (i := 3) X (by decide +kernel) rfl (by decide) rfl (ls_next (by decide) (Or.inr rfl) (ls_next (by decide) (Or.inr rfl) (ls_next (by decide) (Or.inr rfl) (ls_ins ls_end)))) ?_
      refine g_iconst (n := 0) (x := (0 : Int32)) X (by decide +kernel) (by decide) ?_
      refine s_istore (i := 4) X (by decide +kernel) (by decide) rfl (ls_next (by decide) (Or.inr rfl) (ls_next (by decide) (Or.inr rfl) (ls_next (by decide) (Or.inr rfl) (ls_next (by decide) (Or.inr rfl) (ls_ins ls_end))))) ?_
      refine g_sub [0, 2, 3, 4] rfl ?_
      exact w11_edges_L34 X hK o a2 h8 ho n (0 : Int32) (0 : Int32) E
-- AskedNamesModel.count
def f11_count (K : Ly) (n : Nat) (o : Nat) (a1 : Int32) (h : Hp) : Option (Int32 × Hp) :=
    lt (sI h o 0 (0 : Int32)) fun h1 =>
    if (f11_in a1 (0 : Int32) (2 : Int32)) = 0 then (
    some ((-2 : Int32), h1))
    else (
    gd (inb a1 12) <|
    some ((h1.1 (o + 5) a1.toNatClampNeg), h1))
set_option maxHeartbeats 4000000 in
set_option maxRecDepth 20000 in
theorem c11_count {sp : Sp} {K : Ly} {sz n : Nat} (hK : LyOk K) (o : Nat) (a1 : Int32) (h : Hp) (ho : K o = some (.inl 11)) {v : Int32} {hf : Hp} (E : f11_count K n o a1 h = some (v, hf)) : Con sp y11_count prog_13_method_128_code 2 (some (.int)) 2 0 0 [.ref o, .int a1] sz K h (some (.int v)) sz K hf := by
  refine Con.of (by decide) (Nat.le_of_ble_eq_true rfl) (fun Γ X _ => ?_)
  show Go Γ (0, 0) 0 [(0, .ref o), (1, .int a1)] [] sz K h
  unfold f11_count at E
  refine g_aload_n (n := 0) X (by decide +kernel) 0 rfl ?_
  refine g_iconst (n := 0) (x := (0 : Int32)) X (by decide +kernel) (by decide) ?_
  obtain ⟨h1, eh1, E⟩ := lt_E E
  refine g_putI X (by decide +kernel) fp11_169 ho eh1 ?_
  refine g_iload_n (n := 1) X (by decide +kernel) 1 rfl ?_
  refine g_iconst (n := 0) (x := (0 : Int32)) X (by decide +kernel) (by decide) ?_
  refine g_iconst (n := 2) (x := (2 : Int32)) X (by decide +kernel) (by decide) ?_
  refine g_callS1 (st := []) X [.int a1, .int (0 : Int32), .int (2 : Int32)] (by decide +kernel) ml11_181 (by decide) (Nat.le_of_ble_eq_true rfl) (c11_in hK a1 (0 : Int32) (2 : Int32) h1 ) ?_
  rcases it_E E with ⟨c2, E⟩ | ⟨c2, E⟩
  · refine g_if_eq_t (off := 12) (tgt := 23) X (by decide +kernel) (by decide) c2 ?_
    refine g_bipush (n := -2) (x := (-2 : Int32)) X (by decide +kernel) (by decide) ?_
    obtain ⟨rfl, rfl⟩ := rt_E E
    exact g_ireturn X (by decide +kernel)
  · refine g_if_eq_f (off := 12) (tgt := 23) X (by decide +kernel) (by decide) c2 ?_
    refine g_aload_n (n := 0) X (by decide +kernel) 0 rfl ?_
    refine g_getS X (by decide +kernel) fl11_23 ho ?_
    refine g_iload_n (n := 1) X (by decide +kernel) 1 rfl ?_
    obtain ⟨c3, E⟩ := gd_E E
    refine g_iald X (by decide +kernel) (ly hK ho fl11_23 rfl) c3 ?_
    refine g_goto (off := 5) (tgt := 25) X (by decide +kernel) (by decide) ?_
    obtain ⟨rfl, rfl⟩ := rt_E E
    exact g_ireturn X (by decide +kernel)
-- AskedNamesModel.image
def f11_image (K : Ly) (n : Nat) (o : Nat) (a1 : Int32) (h : Hp) : Option (Int32 × Hp) :=
    lt (sI h o 0 (0 : Int32)) fun h1 =>
    if (f11_in a1 (0 : Int32) (2 : Int32)) = 0 then (
    some ((0 : Int32), h1))
    else (
    bp (f11_copyAll K n o (0 : Int32) (a1 + (1 : Int32)) h1) fun h4 =>
    gd (inb a1 3) <|
    lt (sI h4 (o + 52) a1.toNatClampNeg 1) fun h6 =>
    some ((1 : Int32), h6))
set_option maxHeartbeats 4000000 in
set_option maxRecDepth 20000 in
theorem c11_image {sp : Sp} {K : Ly} {sz n : Nat} (hK : LyOk K) (o : Nat) (a1 : Int32) (h : Hp) (ho : K o = some (.inl 11)) {v : Int32} {hf : Hp} (E : f11_image K n o a1 h = some (v, hf)) : Con sp y11_image prog_13_method_129_code 2 (some (.boolean)) 3 0 0 [.ref o, .int a1] sz K h (some (.int v)) sz K hf := by
  refine Con.of (by decide) (Nat.le_of_ble_eq_true rfl) (fun Γ X _ => ?_)
  show Go Γ (0, 0) 0 [(0, .ref o), (1, .int a1)] [] sz K h
  unfold f11_image at E
  refine g_aload_n (n := 0) X (by decide +kernel) 0 rfl ?_
  refine g_iconst (n := 0) (x := (0 : Int32)) X (by decide +kernel) (by decide) ?_
  obtain ⟨h1, eh1, E⟩ := lt_E E
  refine g_putI X (by decide +kernel) fp11_169 ho eh1 ?_
  refine g_iload_n (n := 1) X (by decide +kernel) 1 rfl ?_
  refine g_iconst (n := 0) (x := (0 : Int32)) X (by decide +kernel) (by decide) ?_
  refine g_iconst (n := 2) (x := (2 : Int32)) X (by decide +kernel) (by decide) ?_
  refine g_callS1 (st := []) X [.int a1, .int (0 : Int32), .int (2 : Int32)] (by decide +kernel) ml11_181 (by decide) (Nat.le_of_ble_eq_true rfl) (c11_in hK a1 (0 : Int32) (2 : Int32) h1 ) ?_
  rcases it_E E with ⟨c2, E⟩ | ⟨c2, E⟩
  · refine g_if_ne_f (off := 5) (tgt := 16) X (by decide +kernel) (by decide) (fun z => z c2) ?_
    refine g_iconst (n := 0) (x := (0 : Int32)) X (by decide +kernel) (by decide) ?_
    obtain ⟨rfl, rfl⟩ := rt_E E
    exact g_zreturn X (by decide +kernel) rfl
  · refine g_if_ne_t (off := 5) (tgt := 16) X (by decide +kernel) (by decide) c2 ?_
    refine g_aload_n (n := 0) X (by decide +kernel) 0 rfl ?_
    refine g_iconst (n := 0) (x := (0 : Int32)) X (by decide +kernel) (by decide) ?_
    refine g_iload_n (n := 1) X (by decide +kernel) 1 rfl ?_
    refine g_iconst (n := 1) (x := (1 : Int32)) X (by decide +kernel) (by decide) ?_
    refine g_iadd X (by decide +kernel) ?_
    obtain ⟨h4, e3, E⟩ := bp_E E
    refine g_callV0 (st := []) X [.int (0 : Int32), .int (a1 + (1 : Int32))] (by decide +kernel) ml11_638 ho rfl rfl (by decide) (Nat.le_of_ble_eq_true rfl) (c11_copyAll hK o (0 : Int32) (a1 + (1 : Int32)) h1 ho e3) ?_
    refine g_aload_n (n := 0) X (by decide +kernel) 0 rfl ?_
    refine g_getS X (by decide +kernel) fl11_165 ho ?_
    refine g_iload_n (n := 1) X (by decide +kernel) 1 rfl ?_
    refine g_iconst (n := 1) (x := (1 : Int32)) X (by decide +kernel) (by decide) ?_
    obtain ⟨c5, E⟩ := gd_E E
    obtain ⟨h6, eh6, E⟩ := lt_E E
    refine g_zast1 X (by decide +kernel) (ly hK ho fl11_165 rfl) c5 eh6 ?_
    refine g_iconst (n := 1) (x := (1 : Int32)) X (by decide +kernel) (by decide) ?_
    obtain ⟨rfl, rfl⟩ := rt_E E
    exact g_zreturn X (by decide +kernel) rfl
-- AskedNamesModel.again
def f11_again (K : Ly) (n : Nat) (o : Nat) (a1 : Int32) (h : Hp) : Option (Int32 × Hp) :=
    lt (sI h o 0 (0 : Int32)) fun h1 =>
    if (f11_in a1 (0 : Int32) (2 : Int32)) = 0 then (
    some ((0 : Int32), h1))
    else (
    gd (inb a1 3) <|
    if (h1.1 (o + 52) a1.toNatClampNeg) = 0 then (
    some ((0 : Int32), h1))
    else (
    bp (f11_copyAll K n o (a1 + (1 : Int32)) (0 : Int32) h1) fun h6 =>
    some ((1 : Int32), h6)))
set_option maxHeartbeats 4000000 in
set_option maxRecDepth 20000 in
theorem c11_again {sp : Sp} {K : Ly} {sz n : Nat} (hK : LyOk K) (o : Nat) (a1 : Int32) (h : Hp) (ho : K o = some (.inl 11)) {v : Int32} {hf : Hp} (E : f11_again K n o a1 h = some (v, hf)) : Con sp y11_again prog_13_method_130_code 2 (some (.boolean)) 3 0 0 [.ref o, .int a1] sz K h (some (.int v)) sz K hf := by
  refine Con.of (by decide) (Nat.le_of_ble_eq_true rfl) (fun Γ X _ => ?_)
  show Go Γ (0, 0) 0 [(0, .ref o), (1, .int a1)] [] sz K h
  unfold f11_again at E
  refine g_aload_n (n := 0) X (by decide +kernel) 0 rfl ?_
  refine g_iconst (n := 0) (x := (0 : Int32)) X (by decide +kernel) (by decide) ?_
  obtain ⟨h1, eh1, E⟩ := lt_E E
  refine g_putI X (by decide +kernel) fp11_169 ho eh1 ?_
  refine g_iload_n (n := 1) X (by decide +kernel) 1 rfl ?_
  refine g_iconst (n := 0) (x := (0 : Int32)) X (by decide +kernel) (by decide) ?_
  refine g_iconst (n := 2) (x := (2 : Int32)) X (by decide +kernel) (by decide) ?_
  refine g_callS1 (st := []) X [.int a1, .int (0 : Int32), .int (2 : Int32)] (by decide +kernel) ml11_181 (by decide) (Nat.le_of_ble_eq_true rfl) (c11_in hK a1 (0 : Int32) (2 : Int32) h1 ) ?_
  rcases it_E E with ⟨c2, E⟩ | ⟨c2, E⟩
  · refine g_if_eq_t (off := 12) (tgt := 23) X (by decide +kernel) (by decide) c2 ?_
    refine g_iconst (n := 0) (x := (0 : Int32)) X (by decide +kernel) (by decide) ?_
    obtain ⟨rfl, rfl⟩ := rt_E E
    exact g_zreturn X (by decide +kernel) rfl
  · refine g_if_eq_f (off := 12) (tgt := 23) X (by decide +kernel) (by decide) c2 ?_
    refine g_aload_n (n := 0) X (by decide +kernel) 0 rfl ?_
    refine g_getS X (by decide +kernel) fl11_165 ho ?_
    refine g_iload_n (n := 1) X (by decide +kernel) 1 rfl ?_
    obtain ⟨c3, E⟩ := gd_E E
    refine g_zald X (by decide +kernel) (ly hK ho fl11_165 rfl) c3 ?_
    rcases it_E E with ⟨c4, E⟩ | ⟨c4, E⟩
    · refine g_if_ne_f (off := 5) (tgt := 25) X (by decide +kernel) (by decide) (fun z => z c4) ?_
      refine g_iconst (n := 0) (x := (0 : Int32)) X (by decide +kernel) (by decide) ?_
      obtain ⟨rfl, rfl⟩ := rt_E E
      exact g_zreturn X (by decide +kernel) rfl
    · refine g_if_ne_t (off := 5) (tgt := 25) X (by decide +kernel) (by decide) c4 ?_
      refine g_aload_n (n := 0) X (by decide +kernel) 0 rfl ?_
      refine g_iload_n (n := 1) X (by decide +kernel) 1 rfl ?_
      refine g_iconst (n := 1) (x := (1 : Int32)) X (by decide +kernel) (by decide) ?_
      refine g_iadd X (by decide +kernel) ?_
      refine g_iconst (n := 0) (x := (0 : Int32)) X (by decide +kernel) (by decide) ?_
      obtain ⟨h6, e5, E⟩ := bp_E E
      refine g_callV0 (st := []) X [.int (a1 + (1 : Int32)), .int (0 : Int32)] (by decide +kernel) ml11_638 ho rfl rfl (by decide) (Nat.le_of_ble_eq_true rfl) (c11_copyAll hK o (a1 + (1 : Int32)) (0 : Int32) h1 ho e5) ?_
      refine g_iconst (n := 1) (x := (1 : Int32)) X (by decide +kernel) (by decide) ?_
      obtain ⟨rfl, rfl⟩ := rt_E E
      exact g_zreturn X (by decide +kernel) rfl
