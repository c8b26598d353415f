-- Net.clear
def f2_clear (K : Ly) (n : Nat) (o : Nat) (h : Hp) : Option Hp :=
    lt (sI h o 0 (3 : Int32)) fun h1 =>
    lt (sI h1 o 1 (20 : Int32)) fun h2 =>
    lt (sI h2 o 2 (0 : Int32)) fun h3 =>
    lt (sI h3 o 3 (0 : Int32)) fun h4 =>
    lt (sI h4 o 4 (0 : Int32)) fun h5 =>
    bp (fJArrays_fill_IIV K n (o + 1) 6 (2 : Int32) h5) fun h7 =>
    bp (fJArrays_fill_IIV K n (o + 5) 36 (-1 : Int32) h7) fun h9 =>
    some h9
set_option maxHeartbeats 4000000 in
set_option maxRecDepth 20000 in
theorem c2_clear {sp : Sp} {K : Ly} {sz n : Nat} (hK : LyOk K) (o : Nat) (h : Hp) (ho : K o = some (.inl 2)) {hf : Hp} (E : f2_clear K n o h = some hf) : Con sp y2_clear prog_7_method_2_code 1 none 2 0 0 [.ref o] sz K h none sz K hf := by
  refine Con.of (by decide) (Nat.le_of_ble_eq_true rfl) (fun Γ X _ => ?_)
  show Go Γ (0, 0) 0 [(0, .ref o)] [] sz K h
  unfold f2_clear at E
  refine g_aload_n (n := 0) X (by decide +kernel) 0 rfl ?_
  refine g_iconst (n := 3) (x := (3 : Int32)) X (by decide +kernel) (by decide) ?_
  obtain ⟨h1, eh1, E⟩ := lt_E E
  refine g_putI X (by decide +kernel) fp2_9 ho eh1 ?_
  refine g_aload_n (n := 0) X (by decide +kernel) 0 rfl ?_
  refine g_bipush (n := 20) (x := (20 : Int32)) X (by decide +kernel) (by decide) ?_
  obtain ⟨h2, eh2, E⟩ := lt_E E
  refine g_putI X (by decide +kernel) fp2_15 ho eh2 ?_
  refine g_aload_n (n := 0) X (by decide +kernel) 0 rfl ?_
  refine g_iconst (n := 0) (x := (0 : Int32)) X (by decide +kernel) (by decide) ?_
  obtain ⟨h3, eh3, E⟩ := lt_E E
  refine g_putI X (by decide +kernel) fp2_18 ho eh3 ?_
  refine g_aload_n (n := 0) X (by decide +kernel) 0 rfl ?_
  refine g_iconst (n := 0) (x := (0 : Int32)) X (by decide +kernel) (by decide) ?_
  obtain ⟨h4, eh4, E⟩ := lt_E E
  refine g_putI X (by decide +kernel) fp2_21 ho eh4 ?_
  refine g_aload_n (n := 0) X (by decide +kernel) 0 rfl ?_
  refine g_iconst (n := 0) (x := (0 : Int32)) X (by decide +kernel) (by decide) ?_
  obtain ⟨h5, eh5, E⟩ := lt_E E
  refine g_putI X (by decide +kernel) fp2_24 ho eh5 ?_
  refine g_aload_n (n := 0) X (by decide +kernel) 0 rfl ?_
  refine g_getS X (by decide +kernel) fl2_27 ho ?_
  refine g_iconst (n := 2) (x := (2 : Int32)) X (by decide +kernel) (by decide) ?_
  obtain ⟨h7, e6, E⟩ := bp_E E
  refine g_callS0 (st := []) X [.ref (o + 1), .int (2 : Int32)] (by decide +kernel) ml2_64 (by decide) (Nat.le_of_ble_eq_true rfl) (cJArrays_fill_IIV hK (o + 1) 6 (2 : Int32) h5 (ly hK ho fl2_27 rfl) e6) ?_
  refine g_aload_n (n := 0) X (by decide +kernel) 0 rfl ?_
  refine g_getS X (by decide +kernel) fl2_40 ho ?_
  refine g_iconst (n := -1) (x := (-1 : Int32)) X (by decide +kernel) (by decide) ?_
  obtain ⟨h9, e8, E⟩ := bp_E E
  refine g_callS0 (st := []) X [.ref (o + 5), .int (-1 : Int32)] (by decide +kernel) ml2_64 (by decide) (Nat.le_of_ble_eq_true rfl) (cJArrays_fill_IIV hK (o + 5) 36 (-1 : Int32) h7 (ly hK ho fl2_40 rfl) e8) ?_
  obtain rfl := Option.some.inj E
  exact g_return X (by decide +kernel)
-- Net.addLink
def f2_addLink_J86 (K : Ly) (n : Nat)  (x0 : Nat) (x3 : Int32) (x4 : Int32) (h : Hp) : Option Hp :=
    if x4 = (-1 : Int32) then (
    some h)
    else (
    gd (inb x4 15) <|
    lt (sI h (x0 + 4) x4.toNatClampNeg x3) fun h17 =>
    some h17)
def f2_addLink (K : Ly) (n : Nat) (o : Nat) (a1 : Int32) (a2 : Int32) (a3 : Int32) (h : Hp) : Option Hp :=
    gd (inb ((a1 * (6 : Int32)) + a2) 36) <|
    lt (h.1 (o + 5) ((a1 * (6 : Int32)) + a2).toNatClampNeg) fun x4_2 =>
    if x4_2 = (-1 : Int32) then (
    if (15 : Int32) ≤ (h.1 o 2) then (
    f2_addLink_J86 K n o a3 x4_2 h)
    else (
    lt (h.1 o 2) fun x4_5 =>
    lt (sI h o 2 ((h.1 o 2) + (1 : Int32))) fun h6 =>
    gd (inb x4_5 15) <|
    lt (sI h6 (o + 2) x4_5.toNatClampNeg a1) fun h8 =>
    gd (inb x4_5 15) <|
    lt (sI h8 (o + 3) x4_5.toNatClampNeg a2) fun h10 =>
    gd (inb ((a1 * (6 : Int32)) + a2) 36) <|
    lt (sI h10 (o + 5) ((a1 * (6 : Int32)) + a2).toNatClampNeg x4_5) fun h12 =>
    gd (inb ((a2 * (6 : Int32)) + a1) 36) <|
    lt (sI h12 (o + 5) ((a2 * (6 : Int32)) + a1).toNatClampNeg x4_5) fun h14 =>
    f2_addLink_J86 K n o a3 x4_5 h14))
    else (
    f2_addLink_J86 K n o a3 x4_2 h)
set_option maxHeartbeats 4000000 in
set_option maxRecDepth 20000 in
theorem w2_addLink_J86 {Γ : CT} {sp : Sp} {K : Ly} {sz n : Nat} {hf : Hp}   (X : Ok Γ sp prog_7_method_4_code Rc2 5 none 1 none sz K hf) (hK : LyOk K) (x0 : Nat) (x3 : Int32) (x4 : Int32) (h : Hp)  (px0 : K x0 = some (.inl 2)) (E : f2_addLink_J86 K n x0 x3 x4 h = some hf) : Go Γ (0, 0) 86 [(0, .ref x0), (3, .int x3), (4, .int x4)] [] sz K h := by
  unfold f2_addLink_J86 at E
  refine g_iload (n := 4) X (by decide +kernel) 2 rfl ?_
  refine g_iconst (n := -1) (x := (-1 : Int32)) X (by decide +kernel) (by decide) ?_
  rcases it_E E with ⟨c15, E⟩ | ⟨c15, E⟩
  · refine g_icmp_eq_t (off := 11) (tgt := 100) X (by decide +kernel) (by decide) c15 ?_
    obtain rfl := Option.some.inj E
    exact g_return X (by decide +kernel)
  · refine g_icmp_eq_f (off := 11) (tgt := 100) X (by decide +kernel) (by decide) c15 ?_
    refine g_aload_n (n := 0) X (by decide +kernel) 0 rfl ?_
    refine g_getS X (by decide +kernel) fl2_37 px0 ?_
    refine g_iload (n := 4) X (by decide +kernel) 2 rfl ?_
    refine g_iload_n (n := 3) X (by decide +kernel) 1 rfl ?_
    obtain ⟨c16, E⟩ := gd_E E
    obtain ⟨h17, eh17, E⟩ := lt_E E
    refine g_iast X (by decide +kernel) (ly hK px0 fl2_37 rfl) c16 eh17 ?_
    obtain rfl := Option.some.inj E
    exact g_return X (by decide +kernel)
set_option maxHeartbeats 4000000 in
set_option maxRecDepth 20000 in
theorem c2_addLink {sp : Sp} {K : Ly} {sz n : Nat} (hK : LyOk K) (o : Nat) (a1 : Int32) (a2 : Int32) (a3 : Int32) (h : Hp) (ho : K o = some (.inl 2)) {hf : Hp} (E : f2_addLink K n o a1 a2 a3 h = some hf) : Con sp y2_addLink prog_7_method_4_code 5 none 1 0 0 [.ref o, .int a1, .int a2, .int a3] sz K h none sz K hf := by
  refine Con.of (by decide) (Nat.le_of_ble_eq_true rfl) (fun Γ X _ => ?_)
  show Go Γ (0, 0) 0 [(0, .ref o), (1, .int a1), (2, .int a2), (3, .int a3)] [] sz K h
  unfold f2_addLink at E
  refine g_aload_n (n := 0) X (by decide +kernel) 0 rfl ?_
  refine g_getS X (by decide +kernel) fl2_40 ho ?_
  refine g_iload_n (n := 1) X (by decide +kernel) 1 rfl ?_
  refine g_bipush (n := 6) (x := (6 : Int32)) X (by decide +kernel) (by decide) ?_
  refine g_imul X (by decide +kernel) ?_
  refine g_iload_n (n := 2) X (by decide +kernel) 2 rfl ?_
  refine g_iadd X (by decide +kernel) ?_
  obtain ⟨c1, E⟩ := gd_E E
  refine g_iald X (by decide +kernel) (ly hK ho fl2_40 rfl) c1 ?_
  obtain ⟨x4_2, ex4_2, E⟩ := lt_E E
  refine s_istore (i := 4) X (by decide +kernel) (by decide) ex4_2 (ls_next (by decide) (Or.inr rfl) (ls_next (by decide) (Or.inr rfl) (ls_next (by decide) (Or.inr rfl) (ls_next (by decide) (Or.inr rfl) (ls_ins ls_end))))) ?_
  refine g_iload (n := 4) X (by decide +kernel) 4 rfl ?_
  refine g_iconst (n := -1) (x := (-1 : Int32)) X (by decide +kernel) (by decide) ?_
  rcases it_E E with ⟨c3, E⟩ | ⟨c3, E⟩
  · refine g_icmp_ne_f (off := 70) (tgt := 86) X (by decide +kernel) (by decide) (fun z => z c3) ?_
    refine g_aload_n (n := 0) X (by decide +kernel) 0 rfl ?_
    refine g_getI X (by decide +kernel) fl2_18 ho ?_
    refine g_bipush (n := 15) (x := (15 : Int32)) X (by decide +kernel) (by decide) ?_
    rcases it_E E with ⟨c4, E⟩ | ⟨c4, E⟩
    · refine g_icmp_ge_t (off := 61) (tgt := 86) X (by decide +kernel) (by decide) c4 ?_
      refine g_sub [0, 3, 4] rfl ?_
      exact w2_addLink_J86 X hK o a3 x4_2 h ho E
    · refine g_icmp_ge_f (off := 61) (tgt := 86) X (by decide +kernel) (by decide) c4 ?_
      refine g_aload_n (n := 0) X (by decide +kernel) 0 rfl ?_
      refine g_getI X (by decide +kernel) fl2_18 ho ?_
      obtain ⟨x4_5, ex4_5, E⟩ := lt_E E
      refine s_istore (i := 4) X (by decide +kernel) (by decide) ex4_5 (ls_next (by decide) (Or.inr rfl) (ls_next (by decide) (Or.inr rfl) (ls_next (by decide) (Or.inr rfl) (ls_next (by decide) (Or.inr rfl) (ls_here ls_end))))) ?_
      refine g_aload_n (n := 0) X (by decide +kernel) 0 rfl ?_
      refine g_dup X (by decide +kernel) rfl ?_
      refine g_getI X (by decide +kernel) fl2_18 ho ?_
      refine g_iconst (n := 1) (x := (1 : Int32)) X (by decide +kernel) (by decide) ?_
      refine g_iadd X (by decide +kernel) ?_
      obtain ⟨h6, eh6, E⟩ := lt_E E
      refine g_putI X (by decide +kernel) fp2_18 ho eh6 ?_
      refine g_aload_n (n := 0) X (by decide +kernel) 0 rfl ?_
      refine g_getS X (by decide +kernel) fl2_31 ho ?_
      refine g_iload (n := 4) X (by decide +kernel) 4 rfl ?_
      refine g_iload_n (n := 1) X (by decide +kernel) 1 rfl ?_
      obtain ⟨c7, E⟩ := gd_E E
      obtain ⟨h8, eh8, E⟩ := lt_E E
      refine g_iast X (by decide +kernel) (ly hK ho fl2_31 rfl) c7 eh8 ?_
      refine g_aload_n (n := 0) X (by decide +kernel) 0 rfl ?_
      refine g_getS X (by decide +kernel) fl2_34 ho ?_
      refine g_iload (n := 4) X (by decide +kernel) 4 rfl ?_
      refine g_iload_n (n := 2) X (by decide +kernel) 2 rfl ?_
      obtain ⟨c9, E⟩ := gd_E E
      obtain ⟨h10, eh10, E⟩ := lt_E E
      refine g_iast X (by decide +kernel) (ly hK ho fl2_34 rfl) c9 eh10 ?_
      refine g_aload_n (n := 0) X (by decide +kernel) 0 rfl ?_
      refine g_getS X (by decide +kernel) fl2_40 ho ?_
      refine g_iload_n (n := 1) X (by decide +kernel) 1 rfl ?_
      refine g_bipush (n := 6) (x := (6 : Int32)) X (by decide +kernel) (by decide) ?_
      refine g_imul X (by decide +kernel) ?_
      refine g_iload_n (n := 2) X (by decide +kernel) 2 rfl ?_
      refine g_iadd X (by decide +kernel) ?_
      refine g_iload (n := 4) X (by decide +kernel) 4 rfl ?_
      obtain ⟨c11, E⟩ := gd_E E
      obtain ⟨h12, eh12, E⟩ := lt_E E
      refine g_iast X (by decide +kernel) (ly hK ho fl2_40 rfl) c11 eh12 ?_
      refine g_aload_n (n := 0) X (by decide +kernel) 0 rfl ?_
      refine g_getS X (by decide +kernel) fl2_40 ho ?_
      refine g_iload_n (n := 2) X (by decide +kernel) 2 rfl ?_
      refine g_bipush (n := 6) (x := (6 : Int32)) X (by decide +kernel) (by decide) ?_
      refine g_imul X (by decide +kernel) ?_
      refine g_iload_n (n := 1) X (by decide +kernel) 1 rfl ?_
      refine g_iadd X (by decide +kernel) ?_
      refine g_iload (n := 4) X (by decide +kernel) 4 rfl ?_
      obtain ⟨c13, E⟩ := gd_E E
      obtain ⟨h14, eh14, E⟩ := lt_E E
      refine g_iast X (by decide +kernel) (ly hK ho fl2_40 rfl) c13 eh14 ?_
      refine g_sub [0, 3, 4] rfl ?_
      exact w2_addLink_J86 X hK o a3 x4_5 h14 ho E
  · refine g_icmp_ne_t (off := 70) (tgt := 86) X (by decide +kernel) (by decide) c3 ?_
    refine g_sub [0, 3, 4] rfl ?_
    exact w2_addLink_J86 X hK o a3 x4_2 h ho E
-- Net.addRoute
def f2_addRoute (K : Ly) (n : Nat) (o : Nat) (a1 : Int32) (a2 : Int32) (a3 : Int32) (a4 : Int32) (h : Hp) : Option Hp :=
    if (12 : Int32) ≤ (h.1 o 3) then (
    some h)
    else (
    gd (inb (h.1 o 3) 12) <|
    lt (sI h (o + 6) (h.1 o 3).toNatClampNeg a1) fun h3 =>
    gd (inb (h3.1 o 3) 12) <|
    lt (sI h3 (o + 7) (h3.1 o 3).toNatClampNeg a2) fun h5 =>
    gd (inb (h5.1 o 3) 12) <|
    lt (sI h5 (o + 8) (h5.1 o 3).toNatClampNeg a3) fun h7 =>
    gd (inb (h7.1 o 3) 12) <|
    lt (sI h7 (o + 9) (h7.1 o 3).toNatClampNeg a4) fun h9 =>
    lt (sI h9 o 3 ((h9.1 o 3) + (1 : Int32))) fun h10 =>
    some h10)
set_option maxHeartbeats 4000000 in
set_option maxRecDepth 20000 in
theorem c2_addRoute {sp : Sp} {K : Ly} {sz n : Nat} (hK : LyOk K) (o : Nat) (a1 : Int32) (a2 : Int32) (a3 : Int32) (a4 : Int32) (h : Hp) (ho : K o = some (.inl 2)) {hf : Hp} (E : f2_addRoute K n o a1 a2 a3 a4 h = some hf) : Con sp y2_addRoute prog_7_method_5_code 5 none 1 0 0 [.ref o, .int a1, .int a2, .int a3, .int a4] sz K h none sz K hf := by
  refine Con.of (by decide) (Nat.le_of_ble_eq_true rfl) (fun Γ X _ => ?_)
  show Go Γ (0, 0) 0 [(0, .ref o), (1, .int a1), (2, .int a2), (3, .int a3), (4, .int a4)] [] sz K h
  unfold f2_addRoute at E
  refine g_aload_n (n := 0) X (by decide +kernel) 0 rfl ?_
  refine g_getI X (by decide +kernel) fl2_21 ho ?_
  refine g_bipush (n := 12) (x := (12 : Int32)) X (by decide +kernel) (by decide) ?_
  rcases it_E E with ⟨c1, E⟩ | ⟨c1, E⟩
  · refine g_icmp_ge_t (off := 54) (tgt := 60) X (by decide +kernel) (by decide) c1 ?_
    obtain rfl := Option.some.inj E
    exact g_return X (by decide +kernel)
  · refine g_icmp_ge_f (off := 54) (tgt := 60) X (by decide +kernel) (by decide) c1 ?_
    refine g_aload_n (n := 0) X (by decide +kernel) 0 rfl ?_
    refine g_getS X (by decide +kernel) fl2_43 ho ?_
    refine g_aload_n (n := 0) X (by decide +kernel) 0 rfl ?_
    refine g_getI X (by decide +kernel) fl2_21 ho ?_
    refine g_iload_n (n := 1) X (by decide +kernel) 1 rfl ?_
    obtain ⟨c2, E⟩ := gd_E E
    obtain ⟨h3, eh3, E⟩ := lt_E E
    refine g_iast X (by decide +kernel) (ly hK ho fl2_43 rfl) c2 eh3 ?_
    refine g_aload_n (n := 0) X (by decide +kernel) 0 rfl ?_
    refine g_getS X (by decide +kernel) fl2_46 ho ?_
    refine g_aload_n (n := 0) X (by decide +kernel) 0 rfl ?_
    refine g_getI X (by decide +kernel) fl2_21 ho ?_
    refine g_iload_n (n := 2) X (by decide +kernel) 2 rfl ?_
    obtain ⟨c4, E⟩ := gd_E E
    obtain ⟨h5, eh5, E⟩ := lt_E E
    refine g_iast X (by decide +kernel) (ly hK ho fl2_46 rfl) c4 eh5 ?_
    refine g_aload_n (n := 0) X (by decide +kernel) 0 rfl ?_
    refine g_getS X (by decide +kernel) fl2_49 ho ?_
    refine g_aload_n (n := 0) X (by decide +kernel) 0 rfl ?_
    refine g_getI X (by decide +kernel) fl2_21 ho ?_
    refine g_iload_n (n := 3) X (by decide +kernel) 3 rfl ?_
    obtain ⟨c6, E⟩ := gd_E E
    obtain ⟨h7, eh7, E⟩ := lt_E E
    refine g_iast X (by decide +kernel) (ly hK ho fl2_49 rfl) c6 eh7 ?_
    refine g_aload_n (n := 0) X (by decide +kernel) 0 rfl ?_
    refine g_getS X (by decide +kernel) fl2_52 ho ?_
    refine g_aload_n (n := 0) X (by decide +kernel) 0 rfl ?_
    refine g_getI X (by decide +kernel) fl2_21 ho ?_
    refine g_iload (n := 4) X (by decide +kernel) 4 rfl ?_
    obtain ⟨c8, E⟩ := gd_E E
    obtain ⟨h9, eh9, E⟩ := lt_E E
    refine g_iast X (by decide +kernel) (ly hK ho fl2_52 rfl) c8 eh9 ?_
    refine g_aload_n (n := 0) X (by decide +kernel) 0 rfl ?_
    refine g_dup X (by decide +kernel) rfl ?_
    refine g_getI X (by decide +kernel) fl2_21 ho ?_
    refine g_iconst (n := 1) (x := (1 : Int32)) X (by decide +kernel) (by decide) ?_
    refine g_iadd X (by decide +kernel) ?_
    obtain ⟨h10, eh10, E⟩ := lt_E E
    refine g_putI X (by decide +kernel) fp2_21 ho eh10 ?_
    obtain rfl := Option.some.inj E
    exact g_return X (by decide +kernel)
-- Net.addServe
def f2_addServe (K : Ly) (n : Nat) (o : Nat) (a1 : Int32) (a2 : Int32) (a3 : Int32) (h : Hp) : Option Hp :=
    if (6 : Int32) ≤ (h.1 o 4) then (
    some h)
    else (
    gd (inb (h.1 o 4) 6) <|
    lt (sI h (o + 10) (h.1 o 4).toNatClampNeg a1) fun h3 =>
    gd (inb (h3.1 o 4) 6) <|
    lt (sI h3 (o + 11) (h3.1 o 4).toNatClampNeg a2) fun h5 =>
    gd (inb (h5.1 o 4) 6) <|
    lt (sI h5 (o + 12) (h5.1 o 4).toNatClampNeg a3) fun h7 =>
    lt (sI h7 o 4 ((h7.1 o 4) + (1 : Int32))) fun h8 =>
    some h8)
set_option maxHeartbeats 4000000 in
set_option maxRecDepth 20000 in
theorem c2_addServe {sp : Sp} {K : Ly} {sz n : Nat} (hK : LyOk K) (o : Nat) (a1 : Int32) (a2 : Int32) (a3 : Int32) (h : Hp) (ho : K o = some (.inl 2)) {hf : Hp} (E : f2_addServe K n o a1 a2 a3 h = some hf) : Con sp y2_addServe prog_7_method_6_code 4 none 1 0 0 [.ref o, .int a1, .int a2, .int a3] sz K h none sz K hf := by
  refine Con.of (by decide) (Nat.le_of_ble_eq_true rfl) (fun Γ X _ => ?_)
  show Go Γ (0, 0) 0 [(0, .ref o), (1, .int a1), (2, .int a2), (3, .int a3)] [] sz K h
  unfold f2_addServe at E
  refine g_aload_n (n := 0) X (by decide +kernel) 0 rfl ?_
  refine g_getI X (by decide +kernel) fl2_24 ho ?_
  refine g_bipush (n := 6) (x := (6 : Int32)) X (by decide +kernel) (by decide) ?_
  rcases it_E E with ⟨c1, E⟩ | ⟨c1, E⟩
  · refine g_icmp_ge_t (off := 43) (tgt := 49) X (by decide +kernel) (by decide) c1 ?_
    obtain rfl := Option.some.inj E
    exact g_return X (by decide +kernel)
  · refine g_icmp_ge_f (off := 43) (tgt := 49) X (by decide +kernel) (by decide) c1 ?_
    refine g_aload_n (n := 0) X (by decide +kernel) 0 rfl ?_
    refine g_getS X (by decide +kernel) fl2_55 ho ?_
    refine g_aload_n (n := 0) X (by decide +kernel) 0 rfl ?_
    refine g_getI X (by decide +kernel) fl2_24 ho ?_
    refine g_iload_n (n := 1) X (by decide +kernel) 1 rfl ?_
    obtain ⟨c2, E⟩ := gd_E E
    obtain ⟨h3, eh3, E⟩ := lt_E E
    refine g_iast X (by decide +kernel) (ly hK ho fl2_55 rfl) c2 eh3 ?_
    refine g_aload_n (n := 0) X (by decide +kernel) 0 rfl ?_
    refine g_getS X (by decide +kernel) fl2_58 ho ?_
    refine g_aload_n (n := 0) X (by decide +kernel) 0 rfl ?_
    refine g_getI X (by decide +kernel) fl2_24 ho ?_
    refine g_iload_n (n := 2) X (by decide +kernel) 2 rfl ?_
    obtain ⟨c4, E⟩ := gd_E E
    obtain ⟨h5, eh5, E⟩ := lt_E E
    refine g_iast X (by decide +kernel) (ly hK ho fl2_58 rfl) c4 eh5 ?_
    refine g_aload_n (n := 0) X (by decide +kernel) 0 rfl ?_
    refine g_getS X (by decide +kernel) fl2_61 ho ?_
    refine g_aload_n (n := 0) X (by decide +kernel) 0 rfl ?_
    refine g_getI X (by decide +kernel) fl2_24 ho ?_
    refine g_iload_n (n := 3) X (by decide +kernel) 3 rfl ?_
    obtain ⟨c6, E⟩ := gd_E E
    obtain ⟨h7, eh7, E⟩ := lt_E E
    refine g_iast X (by decide +kernel) (ly hK ho fl2_61 rfl) c6 eh7 ?_
    refine g_aload_n (n := 0) X (by decide +kernel) 0 rfl ?_
    refine g_dup X (by decide +kernel) rfl ?_
    refine g_getI X (by decide +kernel) fl2_24 ho ?_
    refine g_iconst (n := 1) (x := (1 : Int32)) X (by decide +kernel) (by decide) ?_
    refine g_iadd X (by decide +kernel) ?_
    obtain ⟨h8, eh8, E⟩ := lt_E E
    refine g_putI X (by decide +kernel) fp2_24 ho eh8 ?_
    obtain rfl := Option.some.inj E
    exact g_return X (by decide +kernel)
-- Net.copy
def f2_copy (K : Ly) (n : Nat) (o : Nat) (a1 : Nat) (h : Hp) : Option Hp :=
    lt (sI h o 0 (h.1 a1 0)) fun h1 =>
    lt (sI h1 o 1 (h1.1 a1 1)) fun h2 =>
    lt (sI h2 o 2 (h2.1 a1 2)) fun h3 =>
    lt (sI h3 o 3 (h3.1 a1 3)) fun h4 =>
    lt (sI h4 o 4 (h4.1 a1 4)) fun h5 =>
    lt (cpI h5 (a1 + 1) (o + 1) 6) fun h6 =>
    lt (cpI h6 (a1 + 2) (o + 2) 15) fun h7 =>
    lt (cpI h7 (a1 + 3) (o + 3) 15) fun h8 =>
    lt (cpI h8 (a1 + 4) (o + 4) 15) fun h9 =>
    lt (cpI h9 (a1 + 5) (o + 5) 36) fun h10 =>
    lt (cpI h10 (a1 + 6) (o + 6) 12) fun h11 =>
    lt (cpI h11 (a1 + 7) (o + 7) 12) fun h12 =>
    lt (cpI h12 (a1 + 8) (o + 8) 12) fun h13 =>
    lt (cpI h13 (a1 + 9) (o + 9) 12) fun h14 =>
    lt (cpI h14 (a1 + 10) (o + 10) 6) fun h15 =>
    lt (cpI h15 (a1 + 11) (o + 11) 6) fun h16 =>
    lt (cpI h16 (a1 + 12) (o + 12) 6) fun h17 =>
    some h17
set_option maxHeartbeats 4000000 in
set_option maxRecDepth 20000 in
theorem c2_copy {sp : Sp} {K : Ly} {sz n : Nat} (hK : LyOk K) (o : Nat) (a1 : Nat) (h : Hp) (ho : K o = some (.inl 2)) (ha1 : K a1 = some (.inl 2)) {hf : Hp} (E : f2_copy K n o a1 h = some hf) : Con sp y2_copy prog_7_method_3_code 2 none 2 0 0 [.ref o, .ref a1] sz K h none sz K hf := by
  refine Con.of (by decide) (Nat.le_of_ble_eq_true rfl) (fun Γ X _ => ?_)
  show Go Γ (0, 0) 0 [(0, .ref o), (1, .ref a1)] [] sz K h
  unfold f2_copy at E
  refine g_aload_n (n := 0) X (by decide +kernel) 0 rfl ?_
  refine g_aload_n (n := 1) X (by decide +kernel) 1 rfl ?_
  refine g_getI X (by decide +kernel) fl2_9 ha1 ?_
  obtain ⟨h1, eh1, E⟩ := lt_E E
  refine g_putI X (by decide +kernel) fp2_9 ho eh1 ?_
  refine g_aload_n (n := 0) X (by decide +kernel) 0 rfl ?_
  refine g_aload_n (n := 1) X (by decide +kernel) 1 rfl ?_
  refine g_getI X (by decide +kernel) fl2_15 ha1 ?_
  obtain ⟨h2, eh2, E⟩ := lt_E E
  refine g_putI X (by decide +kernel) fp2_15 ho eh2 ?_
  refine g_aload_n (n := 0) X (by decide +kernel) 0 rfl ?_
  refine g_aload_n (n := 1) X (by decide +kernel) 1 rfl ?_
  refine g_getI X (by decide +kernel) fl2_18 ha1 ?_
  obtain ⟨h3, eh3, E⟩ := lt_E E
  refine g_putI X (by decide +kernel) fp2_18 ho eh3 ?_
  refine g_aload_n (n := 0) X (by decide +kernel) 0 rfl ?_
  refine g_aload_n (n := 1) X (by decide +kernel) 1 rfl ?_
  refine g_getI X (by decide +kernel) fl2_21 ha1 ?_
  obtain ⟨h4, eh4, E⟩ := lt_E E
  refine g_putI X (by decide +kernel) fp2_21 ho eh4 ?_
  refine g_aload_n (n := 0) X (by decide +kernel) 0 rfl ?_
  refine g_aload_n (n := 1) X (by decide +kernel) 1 rfl ?_
  refine g_getI X (by decide +kernel) fl2_24 ha1 ?_
  obtain ⟨h5, eh5, E⟩ := lt_E E
  refine g_putI X (by decide +kernel) fp2_24 ho eh5 ?_
  refine g_aload_n (n := 1) X (by decide +kernel) 1 rfl ?_
  refine g_getS X (by decide +kernel) fl2_27 ha1 ?_
  refine g_iconst (n := 0) (x := (0 : Int32)) X (by decide +kernel) (by decide) ?_
  refine g_aload_n (n := 0) X (by decide +kernel) 0 rfl ?_
  refine g_getS X (by decide +kernel) fl2_27 ho ?_
  refine g_iconst (n := 0) (x := (0 : Int32)) X (by decide +kernel) (by decide) ?_
  refine g_bipush (n := 6) (x := (6 : Int32)) X (by decide +kernel) (by decide) ?_
  obtain ⟨h6, eh6, E⟩ := lt_E E
  refine g_acopy (idx := 70) X (by decide +kernel) (in_c4 13 rfl rfl) (by decide) (Nat.le_of_ble_eq_true rfl) (by decide) (ly hK ha1 fl2_27 rfl) (ly hK ho fl2_27 rfl) (by decide) (by decide) eh6 ?_
  refine g_aload_n (n := 1) X (by decide +kernel) 1 rfl ?_
  refine g_getS X (by decide +kernel) fl2_31 ha1 ?_
  refine g_iconst (n := 0) (x := (0 : Int32)) X (by decide +kernel) (by decide) ?_
  refine g_aload_n (n := 0) X (by decide +kernel) 0 rfl ?_
  refine g_getS X (by decide +kernel) fl2_31 ho ?_
  refine g_iconst (n := 0) (x := (0 : Int32)) X (by decide +kernel) (by decide) ?_
  refine g_bipush (n := 15) (x := (15 : Int32)) X (by decide +kernel) (by decide) ?_
  obtain ⟨h7, eh7, E⟩ := lt_E E
  refine g_acopy (idx := 70) X (by decide +kernel) (in_c4 13 rfl rfl) (by decide) (Nat.le_of_ble_eq_true rfl) (by decide) (ly hK ha1 fl2_31 rfl) (ly hK ho fl2_31 rfl) (by decide) (by decide) eh7 ?_
  refine g_aload_n (n := 1) X (by decide +kernel) 1 rfl ?_
  refine g_getS X (by decide +kernel) fl2_34 ha1 ?_
  refine g_iconst (n := 0) (x := (0 : Int32)) X (by decide +kernel) (by decide) ?_
  refine g_aload_n (n := 0) X (by decide +kernel) 0 rfl ?_
  refine g_getS X (by decide +kernel) fl2_34 ho ?_
  refine g_iconst (n := 0) (x := (0 : Int32)) X (by decide +kernel) (by decide) ?_
  refine g_bipush (n := 15) (x := (15 : Int32)) X (by decide +kernel) (by decide) ?_
  obtain ⟨h8, eh8, E⟩ := lt_E E
  refine g_acopy (idx := 70) X (by decide +kernel) (in_c4 13 rfl rfl) (by decide) (Nat.le_of_ble_eq_true rfl) (by decide) (ly hK ha1 fl2_34 rfl) (ly hK ho fl2_34 rfl) (by decide) (by decide) eh8 ?_
  refine g_aload_n (n := 1) X (by decide +kernel) 1 rfl ?_
  refine g_getS X (by decide +kernel) fl2_37 ha1 ?_
  refine g_iconst (n := 0) (x := (0 : Int32)) X (by decide +kernel) (by decide) ?_
  refine g_aload_n (n := 0) X (by decide +kernel) 0 rfl ?_
  refine g_getS X (by decide +kernel) fl2_37 ho ?_
  refine g_iconst (n := 0) (x := (0 : Int32)) X (by decide +kernel) (by decide) ?_
  refine g_bipush (n := 15) (x := (15 : Int32)) X (by decide +kernel) (by decide) ?_
  obtain ⟨h9, eh9, E⟩ := lt_E E
  refine g_acopy (idx := 70) X (by decide +kernel) (in_c4 13 rfl rfl) (by decide) (Nat.le_of_ble_eq_true rfl) (by decide) (ly hK ha1 fl2_37 rfl) (ly hK ho fl2_37 rfl) (by decide) (by decide) eh9 ?_
  refine g_aload_n (n := 1) X (by decide +kernel) 1 rfl ?_
  refine g_getS X (by decide +kernel) fl2_40 ha1 ?_
  refine g_iconst (n := 0) (x := (0 : Int32)) X (by decide +kernel) (by decide) ?_
  refine g_aload_n (n := 0) X (by decide +kernel) 0 rfl ?_
  refine g_getS X (by decide +kernel) fl2_40 ho ?_
  refine g_iconst (n := 0) (x := (0 : Int32)) X (by decide +kernel) (by decide) ?_
  refine g_bipush (n := 36) (x := (36 : Int32)) X (by decide +kernel) (by decide) ?_
  obtain ⟨h10, eh10, E⟩ := lt_E E
  refine g_acopy (idx := 70) X (by decide +kernel) (in_c4 13 rfl rfl) (by decide) (Nat.le_of_ble_eq_true rfl) (by decide) (ly hK ha1 fl2_40 rfl) (ly hK ho fl2_40 rfl) (by decide) (by decide) eh10 ?_
  refine g_aload_n (n := 1) X (by decide +kernel) 1 rfl ?_
  refine g_getS X (by decide +kernel) fl2_43 ha1 ?_
  refine g_iconst (n := 0) (x := (0 : Int32)) X (by decide +kernel) (by decide) ?_
  refine g_aload_n (n := 0) X (by decide +kernel) 0 rfl ?_
  refine g_getS X (by decide +kernel) fl2_43 ho ?_
  refine g_iconst (n := 0) (x := (0 : Int32)) X (by decide +kernel) (by decide) ?_
  refine g_bipush (n := 12) (x := (12 : Int32)) X (by decide +kernel) (by decide) ?_
  obtain ⟨h11, eh11, E⟩ := lt_E E
  refine g_acopy (idx := 70) X (by decide +kernel) (in_c4 13 rfl rfl) (by decide) (Nat.le_of_ble_eq_true rfl) (by decide) (ly hK ha1 fl2_43 rfl) (ly hK ho fl2_43 rfl) (by decide) (by decide) eh11 ?_
  refine g_aload_n (n := 1) X (by decide +kernel) 1 rfl ?_
  refine g_getS X (by decide +kernel) fl2_46 ha1 ?_
  refine g_iconst (n := 0) (x := (0 : Int32)) X (by decide +kernel) (by decide) ?_
  refine g_aload_n (n := 0) X (by decide +kernel) 0 rfl ?_
  refine g_getS X (by decide +kernel) fl2_46 ho ?_
  refine g_iconst (n := 0) (x := (0 : Int32)) X (by decide +kernel) (by decide) ?_
  refine g_bipush (n := 12) (x := (12 : Int32)) X (by decide +kernel) (by decide) ?_
  obtain ⟨h12, eh12, E⟩ := lt_E E
  refine g_acopy (idx := 70) X (by decide +kernel) (in_c4 13 rfl rfl) (by decide) (Nat.le_of_ble_eq_true rfl) (by decide) (ly hK ha1 fl2_46 rfl) (ly hK ho fl2_46 rfl) (by decide) (by decide) eh12 ?_
  refine g_aload_n (n := 1) X (by decide +kernel) 1 rfl ?_
  refine g_getS X (by decide +kernel) fl2_49 ha1 ?_
  refine g_iconst (n := 0) (x := (0 : Int32)) X (by decide +kernel) (by decide) ?_
  refine g_aload_n (n := 0) X (by decide +kernel) 0 rfl ?_
  refine g_getS X (by decide +kernel) fl2_49 ho ?_
  refine g_iconst (n := 0) (x := (0 : Int32)) X (by decide +kernel) (by decide) ?_
  refine g_bipush (n := 12) (x := (12 : Int32)) X (by decide +kernel) (by decide) ?_
  obtain ⟨h13, eh13, E⟩ := lt_E E
  refine g_acopy (idx := 70) X (by decide +kernel) (in_c4 13 rfl rfl) (by decide) (Nat.le_of_ble_eq_true rfl) (by decide) (ly hK ha1 fl2_49 rfl) (ly hK ho fl2_49 rfl) (by decide) (by decide) eh13 ?_
  refine g_aload_n (n := 1) X (by decide +kernel) 1 rfl ?_
  refine g_getS X (by decide +kernel) fl2_52 ha1 ?_
  refine g_iconst (n := 0) (x := (0 : Int32)) X (by decide +kernel) (by decide) ?_
  refine g_aload_n (n := 0) X (by decide +kernel) 0 rfl ?_
  refine g_getS X (by decide +kernel) fl2_52 ho ?_
  refine g_iconst (n := 0) (x := (0 : Int32)) X (by decide +kernel) (by decide) ?_
  refine g_bipush (n := 12) (x := (12 : Int32)) X (by decide +kernel) (by decide) ?_
  obtain ⟨h14, eh14, E⟩ := lt_E E
  refine g_acopy (idx := 70) X (by decide +kernel) (in_c4 13 rfl rfl) (by decide) (Nat.le_of_ble_eq_true rfl) (by decide) (ly hK ha1 fl2_52 rfl) (ly hK ho fl2_52 rfl) (by decide) (by decide) eh14 ?_
  refine g_aload_n (n := 1) X (by decide +kernel) 1 rfl ?_
  refine g_getS X (by decide +kernel) fl2_55 ha1 ?_
  refine g_iconst (n := 0) (x := (0 : Int32)) X (by decide +kernel) (by decide) ?_
  refine g_aload_n (n := 0) X (by decide +kernel) 0 rfl ?_
  refine g_getS X (by decide +kernel) fl2_55 ho ?_
  refine g_iconst (n := 0) (x := (0 : Int32)) X (by decide +kernel) (by decide) ?_
  refine g_bipush (n := 6) (x := (6 : Int32)) X (by decide +kernel) (by decide) ?_
  obtain ⟨h15, eh15, E⟩ := lt_E E
  refine g_acopy (idx := 70) X (by decide +kernel) (in_c4 13 rfl rfl) (by decide) (Nat.le_of_ble_eq_true rfl) (by decide) (ly hK ha1 fl2_55 rfl) (ly hK ho fl2_55 rfl) (by decide) (by decide) eh15 ?_
  refine g_aload_n (n := 1) X (by decide +kernel) 1 rfl ?_
  refine g_getS X (by decide +kernel) fl2_58 ha1 ?_
  refine g_iconst (n := 0) (x := (0 : Int32)) X (by decide +kernel) (by decide) ?_
  refine g_aload_n (n := 0) X (by decide +kernel) 0 rfl ?_
  refine g_getS X (by decide +kernel) fl2_58 ho ?_
  refine g_iconst (n := 0) (x := (0 : Int32)) X (by decide +kernel) (by decide) ?_
  refine g_bipush (n := 6) (x := (6 : Int32)) X (by decide +kernel) (by decide) ?_
  obtain ⟨h16, eh16, E⟩ := lt_E E
  refine g_acopy (idx := 70) X (by decide +kernel) (in_c4 13 rfl rfl) (by decide) (Nat.le_of_ble_eq_true rfl) (by decide) (ly hK ha1 fl2_58 rfl) (ly hK ho fl2_58 rfl) (by decide) (by decide) eh16 ?_
  refine g_aload_n (n := 1) X (by decide +kernel) 1 rfl ?_
  refine g_getS X (by decide +kernel) fl2_61 ha1 ?_
  refine g_iconst (n := 0) (x := (0 : Int32)) X (by decide +kernel) (by decide) ?_
  refine g_aload_n (n := 0) X (by decide +kernel) 0 rfl ?_
  refine g_getS X (by decide +kernel) fl2_61 ho ?_
  refine g_iconst (n := 0) (x := (0 : Int32)) X (by decide +kernel) (by decide) ?_
  refine g_bipush (n := 6) (x := (6 : Int32)) X (by decide +kernel) (by decide) ?_
  obtain ⟨h17, eh17, E⟩ := lt_E E
  refine g_acopy (idx := 70) X (by decide +kernel) (in_c4 13 rfl rfl) (by decide) (Nat.le_of_ble_eq_true rfl) (by decide) (ly hK ha1 fl2_61 rfl) (ly hK ho fl2_61 rfl) (by decide) (by decide) eh17 ?_
  obtain rfl := Option.some.inj E
  exact g_return X (by decide +kernel)
-- Net.ofServe
def f2_ofServe (K : Ly) (n : Nat) (o : Nat) (a1 : Int32) (h : Hp) : Option (Int32) :=
    lt (a1 - a1 / (20 : Int32) * (20 : Int32)) fun x2_1 =>
    if x2_1 < (h.1 o 4) then (
    if (a1 / (20 : Int32)) = (0 : Int32) then (
    gd (inb x2_1 6) <|
    some (h.1 (o + 10) x2_1.toNatClampNeg))
    else if (a1 / (20 : Int32)) = (1 : Int32) then (
    gd (inb x2_1 6) <|
    some (h.1 (o + 11) x2_1.toNatClampNeg))
    else if (a1 / (20 : Int32)) = (2 : Int32) then (
    gd (inb x2_1 6) <|
    some (h.1 (o + 12) x2_1.toNatClampNeg))
    else (
    some (-2 : Int32)))
    else (
    some (-2 : Int32))
set_option maxHeartbeats 4000000 in
set_option maxRecDepth 20000 in
theorem c2_ofServe {sp : Sp} {K : Ly} {sz n : Nat} (hK : LyOk K) (o : Nat) (a1 : Int32) (h : Hp) (ho : K o = some (.inl 2)) {v : Int32} (E : f2_ofServe K n o a1 h = some v) : Con sp y2_ofServe prog_7_method_11_code 3 (some (.int)) 1 0 0 [.ref o, .int a1] sz K h (some (.int v)) sz K h := by
  refine Con.of (by decide) (Nat.le_of_ble_eq_true rfl) (fun Γ X _ => ?_)
  show Go Γ (0, 0) 0 [(0, .ref o), (1, .int a1)] [] sz K h
  unfold f2_ofServe at E
  refine g_iload_n (n := 1) X (by decide +kernel) 1 rfl ?_
  refine g_bipush (n := 20) (x := (20 : Int32)) X (by decide +kernel) (by decide) ?_
  refine g_irem X (by decide +kernel) (by decide) ?_
  obtain ⟨x2_1, ex2_1, E⟩ := lt_E E
  refine s_istore_n (n := 2) (i := 2) X (by decide +kernel) rfl (by decide) ex2_1 (ls_next (by decide) (Or.inr rfl) (ls_next (by decide) (Or.inr rfl) (ls_ins ls_end))) ?_
  refine g_iload_n (n := 2) X (by decide +kernel) 2 rfl ?_
  refine g_aload_n (n := 0) X (by decide +kernel) 0 rfl ?_
  refine g_getI X (by decide +kernel) fl2_24 ho ?_
  rcases it_E E with ⟨c2, E⟩ | ⟨c2, E⟩
  · refine g_icmp_lt_t (off := 6) (tgt := 16) X (by decide +kernel) (by decide) c2 ?_
    refine g_iload_n (n := 1) X (by decide +kernel) 1 rfl ?_
    refine g_bipush (n := 20) (x := (20 : Int32)) X (by decide +kernel) (by decide) ?_
    refine g_idiv X (by decide +kernel) (by decide) ?_
    rcases it_E E with ⟨c3, E⟩ | ⟨c3, E⟩
    · refine g_tab_in (dflt := 49) (lo := 0) (hi := 2) (offs := #[28, 35, 42]) (len := 28) (off := 28) (tgt := 48) X (by decide +kernel) (by rw [c3]; decide) (by rw [c3]; decide) (by rw [c3]; decide) (by decide) ?_
      refine g_aload_n (n := 0) X (by decide +kernel) 0 rfl ?_
      refine g_getS X (by decide +kernel) fl2_55 ho ?_
      refine g_iload_n (n := 2) X (by decide +kernel) 2 rfl ?_
      obtain ⟨c4, E⟩ := gd_E E
      refine g_iald X (by decide +kernel) (ly hK ho fl2_55 rfl) c4 ?_
      obtain rfl := Option.some.inj E
      exact g_ireturn X (by decide +kernel)
    · rcases it_E E with ⟨c5, E⟩ | ⟨c5, E⟩
      · refine g_tab_in (dflt := 49) (lo := 0) (hi := 2) (offs := #[28, 35, 42]) (len := 28) (off := 35) (tgt := 55) X (by decide +kernel) (by rw [c5]; decide) (by rw [c5]; decide) (by rw [c5]; decide) (by decide) ?_
        refine g_aload_n (n := 0) X (by decide +kernel) 0 rfl ?_
        refine g_getS X (by decide +kernel) fl2_58 ho ?_
        refine g_iload_n (n := 2) X (by decide +kernel) 2 rfl ?_
        obtain ⟨c6, E⟩ := gd_E E
        refine g_iald X (by decide +kernel) (ly hK ho fl2_58 rfl) c6 ?_
        obtain rfl := Option.some.inj E
        exact g_ireturn X (by decide +kernel)
      · rcases it_E E with ⟨c7, E⟩ | ⟨c7, E⟩
        · refine g_tab_in (dflt := 49) (lo := 0) (hi := 2) (offs := #[28, 35, 42]) (len := 28) (off := 42) (tgt := 62) X (by decide +kernel) (by rw [c7]; decide) (by rw [c7]; decide) (by rw [c7]; decide) (by decide) ?_
          refine g_aload_n (n := 0) X (by decide +kernel) 0 rfl ?_
          refine g_getS X (by decide +kernel) fl2_61 ho ?_
          refine g_iload_n (n := 2) X (by decide +kernel) 2 rfl ?_
          obtain ⟨c8, E⟩ := gd_E E
          refine g_iald X (by decide +kernel) (ly hK ho fl2_61 rfl) c8 ?_
          obtain rfl := Option.some.inj E
          exact g_ireturn X (by decide +kernel)
        · have z9 : (a1 / (20 : Int32)).toInt < 0 ∨ 2 < (a1 / (20 : Int32)).toInt := by
            have z := sw_out (x := (a1 / (20 : Int32))) 0 2 (by decide) (by decide) (by
              intro j hj
              have hj2 : j = 0 ∨ j = 1 ∨ j = 2 := by omega
              rcases hj2 with rfl | rfl | rfl
              · exact c3
              · exact c5
              · exact c7)
            simpa using z
          refine g_tab_out (dflt := 49) (lo := 0) (hi := 2) (offs := #[28, 35, 42]) (len := 28) (tgt := 69) X (by decide +kernel) z9 (by decide) ?_
          refine g_bipush (n := -2) (x := (-2 : Int32)) X (by decide +kernel) (by decide) ?_
          obtain rfl := Option.some.inj E
          exact g_ireturn X (by decide +kernel)
  · refine g_icmp_lt_f (off := 6) (tgt := 16) X (by decide +kernel) (by decide) c2 ?_
    refine g_bipush (n := -2) (x := (-2 : Int32)) X (by decide +kernel) (by decide) ?_
    obtain rfl := Option.some.inj E
    exact g_ireturn X (by decide +kernel)
-- Net.ofRoute
def f2_ofRoute (K : Ly) (n : Nat) (o : Nat) (a1 : Int32) (h : Hp) : Option (Int32) :=
    lt (a1 - a1 / (20 : Int32) * (20 : Int32)) fun x2_1 =>
    if x2_1 < (h.1 o 3) then (
    if (a1 / (20 : Int32)) = (0 : Int32) then (
    gd (inb x2_1 12) <|
    some (h.1 (o + 6) x2_1.toNatClampNeg))
    else if (a1 / (20 : Int32)) = (1 : Int32) then (
    gd (inb x2_1 12) <|
    some (h.1 (o + 7) x2_1.toNatClampNeg))
    else if (a1 / (20 : Int32)) = (2 : Int32) then (
    gd (inb x2_1 12) <|
    some (h.1 (o + 8) x2_1.toNatClampNeg))
    else if (a1 / (20 : Int32)) = (3 : Int32) then (
    gd (inb x2_1 12) <|
    some (h.1 (o + 9) x2_1.toNatClampNeg))
    else (
    some (-2 : Int32)))
    else (
    some (-2 : Int32))
set_option maxHeartbeats 4000000 in
set_option maxRecDepth 20000 in
theorem c2_ofRoute {sp : Sp} {K : Ly} {sz n : Nat} (hK : LyOk K) (o : Nat) (a1 : Int32) (h : Hp) (ho : K o = some (.inl 2)) {v : Int32} (E : f2_ofRoute K n o a1 h = some v) : Con sp y2_ofRoute prog_7_method_10_code 3 (some (.int)) 1 0 0 [.ref o, .int a1] sz K h (some (.int v)) sz K h := by
  refine Con.of (by decide) (Nat.le_of_ble_eq_true rfl) (fun Γ X _ => ?_)
  show Go Γ (0, 0) 0 [(0, .ref o), (1, .int a1)] [] sz K h
  unfold f2_ofRoute at E
  refine g_iload_n (n := 1) X (by decide +kernel) 1 rfl ?_
  refine g_bipush (n := 20) (x := (20 : Int32)) X (by decide +kernel) (by decide) ?_
  refine g_irem X (by decide +kernel) (by decide) ?_
  obtain ⟨x2_1, ex2_1, E⟩ := lt_E E
  refine s_istore_n (n := 2) (i := 2) X (by decide +kernel) rfl (by decide) ex2_1 (ls_next (by decide) (Or.inr rfl) (ls_next (by decide) (Or.inr rfl) (ls_ins ls_end))) ?_
  refine g_iload_n (n := 2) X (by decide +kernel) 2 rfl ?_
  refine g_aload_n (n := 0) X (by decide +kernel) 0 rfl ?_
  refine g_getI X (by decide +kernel) fl2_21 ho ?_
  rcases it_E E with ⟨c2, E⟩ | ⟨c2, E⟩
  · refine g_icmp_lt_t (off := 6) (tgt := 16) X (by decide +kernel) (by decide) c2 ?_
    refine g_iload_n (n := 1) X (by decide +kernel) 1 rfl ?_
    refine g_bipush (n := 20) (x := (20 : Int32)) X (by decide +kernel) (by decide) ?_
    refine g_idiv X (by decide +kernel) (by decide) ?_
    rcases it_E E with ⟨c3, E⟩ | ⟨c3, E⟩
    · refine g_tab_in (dflt := 60) (lo := 0) (hi := 3) (offs := #[32, 39, 46, 53]) (len := 32) (off := 32) (tgt := 52) X (by decide +kernel) (by rw [c3]; decide) (by rw [c3]; decide) (by rw [c3]; decide) (by decide) ?_
      refine g_aload_n (n := 0) X (by decide +kernel) 0 rfl ?_
      refine g_getS X (by decide +kernel) fl2_43 ho ?_
      refine g_iload_n (n := 2) X (by decide +kernel) 2 rfl ?_
      obtain ⟨c4, E⟩ := gd_E E
      refine g_iald X (by decide +kernel) (ly hK ho fl2_43 rfl) c4 ?_
      obtain rfl := Option.some.inj E
      exact g_ireturn X (by decide +kernel)
    · rcases it_E E with ⟨c5, E⟩ | ⟨c5, E⟩
      · refine g_tab_in (dflt := 60) (lo := 0) (hi := 3) (offs := #[32, 39, 46, 53]) (len := 32) (off := 39) (tgt := 59) X (by decide +kernel) (by rw [c5]; decide) (by rw [c5]; decide) (by rw [c5]; decide) (by decide) ?_
        refine g_aload_n (n := 0) X (by decide +kernel) 0 rfl ?_
        refine g_getS X (by decide +kernel) fl2_46 ho ?_
        refine g_iload_n (n := 2) X (by decide +kernel) 2 rfl ?_
        obtain ⟨c6, E⟩ := gd_E E
        refine g_iald X (by decide +kernel) (ly hK ho fl2_46 rfl) c6 ?_
        obtain rfl := Option.some.inj E
        exact g_ireturn X (by decide +kernel)
      · rcases it_E E with ⟨c7, E⟩ | ⟨c7, E⟩
        · refine g_tab_in (dflt := 60) (lo := 0) (hi := 3) (offs := #[32, 39, 46, 53]) (len := 32) (off := 46) (tgt := 66) X (by decide +kernel) (by rw [c7]; decide) (by rw [c7]; decide) (by rw [c7]; decide) (by decide) ?_
          refine g_aload_n (n := 0) X (by decide +kernel) 0 rfl ?_
          refine g_getS X (by decide +kernel) fl2_49 ho ?_
          refine g_iload_n (n := 2) X (by decide +kernel) 2 rfl ?_
          obtain ⟨c8, E⟩ := gd_E E
          refine g_iald X (by decide +kernel) (ly hK ho fl2_49 rfl) c8 ?_
          obtain rfl := Option.some.inj E
          exact g_ireturn X (by decide +kernel)
        · rcases it_E E with ⟨c9, E⟩ | ⟨c9, E⟩
          · refine g_tab_in (dflt := 60) (lo := 0) (hi := 3) (offs := #[32, 39, 46, 53]) (len := 32) (off := 53) (tgt := 73) X (by decide +kernel) (by rw [c9]; decide) (by rw [c9]; decide) (by rw [c9]; decide) (by decide) ?_
            refine g_aload_n (n := 0) X (by decide +kernel) 0 rfl ?_
            refine g_getS X (by decide +kernel) fl2_52 ho ?_
            refine g_iload_n (n := 2) X (by decide +kernel) 2 rfl ?_
            obtain ⟨c10, E⟩ := gd_E E
            refine g_iald X (by decide +kernel) (ly hK ho fl2_52 rfl) c10 ?_
            obtain rfl := Option.some.inj E
            exact g_ireturn X (by decide +kernel)
          · have z11 : (a1 / (20 : Int32)).toInt < 0 ∨ 3 < (a1 / (20 : Int32)).toInt := by
              have z := sw_out (x := (a1 / (20 : Int32))) 0 3 (by decide) (by decide) (by
                intro j hj
                have hj2 : j = 0 ∨ j = 1 ∨ j = 2 ∨ j = 3 := by omega
                rcases hj2 with rfl | rfl | rfl | rfl
                · exact c3
                · exact c5
                · exact c7
                · exact c9)
              simpa using z
            refine g_tab_out (dflt := 60) (lo := 0) (hi := 3) (offs := #[32, 39, 46, 53]) (len := 32) (tgt := 80) X (by decide +kernel) z11 (by decide) ?_
            refine g_bipush (n := -2) (x := (-2 : Int32)) X (by decide +kernel) (by decide) ?_
            obtain rfl := Option.some.inj E
            exact g_ireturn X (by decide +kernel)
  · refine g_icmp_lt_f (off := 6) (tgt := 16) X (by decide +kernel) (by decide) c2 ?_
    refine g_bipush (n := -2) (x := (-2 : Int32)) X (by decide +kernel) (by decide) ?_
    obtain rfl := Option.some.inj E
    exact g_ireturn X (by decide +kernel)
-- Net.hasNode
def f2_hasNode (o : Nat) (a1 : Int32) (h : Hp) : Int32 :=
    (if a1 < 0 then (0 : Int32) else (if (h.1 o 0) ≤ a1 then (0 : Int32) else (1 : Int32)))
set_option maxHeartbeats 4000000 in
set_option maxRecDepth 20000 in
theorem c2_hasNode {sp : Sp} {K : Ly} {sz : Nat} (hK : LyOk K) (o : Nat) (a1 : Int32) (h : Hp) (ho : K o = some (.inl 2)) : Con sp y2_hasNode prog_7_method_7_code 2 (some (.boolean)) 1 0 0 [.ref o, .int a1] sz K h (some (.int (f2_hasNode o a1 h))) sz K h := by
  obtain ⟨v, E⟩ : ∃ v, f2_hasNode o a1 h = v := ⟨_, rfl⟩
  rw [E]
  refine Con.of (by decide) (Nat.le_of_ble_eq_true rfl) (fun Γ X _ => ?_)
  show Go Γ (0, 0) 0 [(0, .ref o), (1, .int a1)] [] sz K h
  unfold f2_hasNode at E
  refine g_iload_n (n := 1) X (by decide +kernel) 1 rfl ?_
  have hJ : Go Γ (0, 0) 17 [] [.int (if a1 < 0 then (0 : Int32) else (if (h.1 o 0) ≤ a1 then (0 : Int32) else (1 : Int32)))] sz K h := by
    subst E
    exact g_zreturn X (by decide +kernel) (by (repeat' split) <;> rfl)
  clear E
  by_cases c1 : a1 < 0
  · rw [if_pos c1] at hJ
    refine g_if_lt_t (off := 15) (tgt := 16) X (by decide +kernel) (by decide) c1 ?_
    refine g_iconst (n := 0) (x := (0 : Int32)) X (by decide +kernel) (by decide) ?_
    refine g_sub [] rfl ?_
    exact hJ
  · rw [if_neg c1] at hJ
    refine g_if_lt_f (off := 15) (tgt := 16) X (by decide +kernel) (by decide) c1 ?_
    refine g_iload_n (n := 1) X (by decide +kernel) 1 rfl ?_
    refine g_aload_n (n := 0) X (by decide +kernel) 0 rfl ?_
    refine g_getI X (by decide +kernel) fl2_9 ho ?_
    by_cases c2 : (h.1 o 0) ≤ a1
    · rw [if_pos c2] at hJ
      refine g_icmp_ge_t (off := 7) (tgt := 16) X (by decide +kernel) (by decide) c2 ?_
      refine g_iconst (n := 0) (x := (0 : Int32)) X (by decide +kernel) (by decide) ?_
      refine g_sub [] rfl ?_
      exact hJ
    · rw [if_neg c2] at hJ
      refine g_icmp_ge_f (off := 7) (tgt := 16) X (by decide +kernel) (by decide) c2 ?_
      refine g_iconst (n := 1) (x := (1 : Int32)) X (by decide +kernel) (by decide) ?_
      refine g_goto (off := 4) (tgt := 17) X (by decide +kernel) (by decide) ?_
      refine g_sub [] rfl ?_
      exact hJ
-- Net.ofPair
def f2_ofPair (K : Ly) (n : Nat) (o : Nat) (a1 : Int32) (h : Hp) : Option (Int32) :=
    lt (a1 / (10 : Int32)) fun x2_1 =>
    lt (a1 - a1 / (10 : Int32) * (10 : Int32)) fun x3_2 =>
    if (f2_hasNode o x2_1 h) = 0 then (
    some (-2 : Int32))
    else (
    if (f2_hasNode o x3_2 h) = 0 then (
    some (-2 : Int32))
    else (
    gd (inb ((x2_1 * (6 : Int32)) + x3_2) 36) <|
    lt (h.1 (o + 5) ((x2_1 * (6 : Int32)) + x3_2).toNatClampNeg) fun x4_6 =>
    if x4_6 = (-1 : Int32) then (
    some (-1 : Int32))
    else (
    gd (inb x4_6 15) <|
    some (h.1 (o + 4) x4_6.toNatClampNeg))))
set_option maxHeartbeats 4000000 in
set_option maxRecDepth 20000 in
theorem c2_ofPair {sp : Sp} {K : Ly} {sz n : Nat} (hK : LyOk K) (o : Nat) (a1 : Int32) (h : Hp) (ho : K o = some (.inl 2)) {v : Int32} (E : f2_ofPair K n o a1 h = some v) : Con sp y2_ofPair prog_7_method_9_code 5 (some (.int)) 2 0 0 [.ref o, .int a1] sz K h (some (.int v)) sz K h := by
  refine Con.of (by decide) (Nat.le_of_ble_eq_true rfl) (fun Γ X _ => ?_)
  show Go Γ (0, 0) 0 [(0, .ref o), (1, .int a1)] [] sz K h
  unfold f2_ofPair at E
  refine g_iload_n (n := 1) X (by decide +kernel) 1 rfl ?_
  refine g_bipush (n := 10) (x := (10 : Int32)) X (by decide +kernel) (by decide) ?_
  refine g_idiv X (by decide +kernel) (by decide) ?_
  obtain ⟨x2_1, ex2_1, E⟩ := lt_E E
  refine s_istore_n (n := 2) (i := 2) X (by decide +kernel) rfl (by decide) ex2_1 (ls_next (by decide) (Or.inr rfl) (ls_next (by decide) (Or.inr rfl) (ls_ins ls_end))) ?_
  refine g_iload_n (n := 1) X (by decide +kernel) 1 rfl ?_
  refine g_bipush (n := 10) (x := (10 : Int32)) X (by decide +kernel) (by decide) ?_
  refine g_irem X (by decide +kernel) (by decide) ?_
  obtain ⟨x3_2, ex3_2, E⟩ := lt_E E
  refine s_istore_n (n := 3) (i := 3) X (by decide +kernel) rfl (by decide) ex3_2 (ls_next (by decide) (Or.inr rfl) (ls_next (by decide) (Or.inr rfl) (ls_next (by decide) (Or.inr rfl) (ls_ins ls_end)))) ?_
  refine g_aload_n (n := 0) X (by decide +kernel) 0 rfl ?_
  refine g_iload_n (n := 2) X (by decide +kernel) 2 rfl ?_
  refine g_callV1 (st := []) X [.int x2_1] (by decide +kernel) ml2_76 ho rfl rfl (by decide) (Nat.le_of_ble_eq_true rfl) (c2_hasNode hK o x2_1 h ho) ?_
  rcases it_E E with ⟨c3, E⟩ | ⟨c3, E⟩
  · refine g_if_eq_t (off := 11) (tgt := 26) X (by decide +kernel) (by decide) c3 ?_
    refine g_bipush (n := -2) (x := (-2 : Int32)) X (by decide +kernel) (by decide) ?_
    obtain rfl := Option.some.inj E
    exact g_ireturn X (by decide +kernel)
  · refine g_if_eq_f (off := 11) (tgt := 26) X (by decide +kernel) (by decide) c3 ?_
    refine g_aload_n (n := 0) X (by decide +kernel) 0 rfl ?_
    refine g_iload_n (n := 3) X (by decide +kernel) 3 rfl ?_
    refine g_callV1 (st := []) X [.int x3_2] (by decide +kernel) ml2_76 ho rfl rfl (by decide) (Nat.le_of_ble_eq_true rfl) (c2_hasNode hK o x3_2 h ho) ?_
    rcases it_E E with ⟨c4, E⟩ | ⟨c4, E⟩
    · refine g_if_ne_f (off := 6) (tgt := 29) X (by decide +kernel) (by decide) (fun z => z c4) ?_
      refine g_bipush (n := -2) (x := (-2 : Int32)) X (by decide +kernel) (by decide) ?_
      obtain rfl := Option.some.inj E
      exact g_ireturn X (by decide +kernel)
    · refine g_if_ne_t (off := 6) (tgt := 29) X (by decide +kernel) (by decide) c4 ?_
      refine g_aload_n (n := 0) X (by decide +kernel) 0 rfl ?_
      refine g_getS X (by decide +kernel) fl2_40 ho ?_
      refine g_iload_n (n := 2) X (by decide +kernel) 2 rfl ?_
      refine g_bipush (n := 6) (x := (6 : Int32)) X (by decide +kernel) (by decide) ?_
      refine g_imul X (by decide +kernel) ?_
      refine g_iload_n (n := 3) X (by decide +kernel) 3 rfl ?_
      refine g_iadd X (by decide +kernel) ?_
      obtain ⟨c5, E⟩ := gd_E E
      refine g_iald X (by decide +kernel) (ly hK ho fl2_40 rfl) c5 ?_
      obtain ⟨x4_6, ex4_6, E⟩ := lt_E E
      refine s_istore (i := 4) X (by decide +kernel) (by decide) ex4_6 (ls_next (by decide) (Or.inr rfl) (ls_next (by decide) (Or.inr rfl) (ls_next (by decide) (Or.inr rfl) (ls_next (by decide) (Or.inr rfl) (ls_ins ls_end))))) ?_
      refine g_iload (n := 4) X (by decide +kernel) 4 rfl ?_
      refine g_iconst (n := -1) (x := (-1 : Int32)) X (by decide +kernel) (by decide) ?_
      rcases it_E E with ⟨c7, E⟩ | ⟨c7, E⟩
      · refine g_icmp_ne_f (off := 7) (tgt := 52) X (by decide +kernel) (by decide) (fun z => z c7) ?_
        refine g_iconst (n := -1) (x := (-1 : Int32)) X (by decide +kernel) (by decide) ?_
        refine g_goto (off := 10) (tgt := 59) X (by decide +kernel) (by decide) ?_
        obtain rfl := Option.some.inj E
        exact g_ireturn X (by decide +kernel)
      · refine g_icmp_ne_t (off := 7) (tgt := 52) X (by decide +kernel) (by decide) c7 ?_
        refine g_aload_n (n := 0) X (by decide +kernel) 0 rfl ?_
        refine g_getS X (by decide +kernel) fl2_37 ho ?_
        refine g_iload (n := 4) X (by decide +kernel) 4 rfl ?_
        obtain ⟨c8, E⟩ := gd_E E
        refine g_iald X (by decide +kernel) (ly hK ho fl2_37 rfl) c8 ?_
        obtain rfl := Option.some.inj E
        exact g_ireturn X (by decide +kernel)
-- Net.serving
def f2_serving_L18 (K : Ly) (n : Nat) (x0 : Nat) (x1 : Int32) (x3 : Int32) (x4 : Int32) (h : Hp) (r5 : Int32 → Int32 → Option (Int32)) : Nat → Int32 → Option (Int32)
  | 0, _ => none
  | k + 1, x5 =>
    if (h.1 x0 4) ≤ x5 then (
    lt (x3 / (27 : Int32)) fun x3_4 =>
    lt (x4 + (1 : Int32)) fun x4_5 =>
    r5 x3_4 x4_5)
    else (
    gd (inb x5 6) <|
    if (h.1 (x0 + 10) x5.toNatClampNeg) = x1 then (
    gd (inb x5 6) <|
    if (h.1 (x0 + 11) x5.toNatClampNeg) = x3 then (
    some x5)
    else (
    lt (x5 + (1 : Int32)) fun x5_10 =>
    f2_serving_L18 K n x0 x1 x3 x4 h r5 k x5_10))
    else (
    lt (x5 + (1 : Int32)) fun x5_11 =>
    f2_serving_L18 K n x0 x1 x3 x4 h r5 k x5_11))
def f2_serving_L5 (K : Ly) (n : Nat) (x0 : Nat) (x1 : Int32) (h : Hp)  : Nat → Int32 → Int32 → Option (Int32)
  | 0, _, _ => none
  | k + 1, x3, x4 =>
    if (4 : Int32) ≤ x4 then (
    some (-1 : Int32))
    else (
    if x3 ≤ 0 then (
    some (-1 : Int32))
    else (
    f2_serving_L18 K n x0 x1 x3 x4 h (f2_serving_L5 K n x0 x1 h  k) n (0 : Int32)))
def f2_serving (K : Ly) (n : Nat) (o : Nat) (a1 : Int32) (a2 : Int32) (h : Hp) : Option (Int32) :=
    f2_serving_L5 K n o a1 h n a2 (0 : Int32)
set_option maxHeartbeats 4000000 in
set_option maxRecDepth 20000 in
theorem w2_serving_L18 {Γ : CT} {sp : Sp} {K : Ly} {sz n : Nat} {v : Int32} {h : Hp}  (X : Ok Γ sp prog_7_method_14_code Rc2 6 (some (.int)) 1 (some (.int v)) sz K h) (hK : LyOk K) (x0 : Nat) (x1 : Int32) (x3 : Int32) (x4 : Int32)  {r5 : Int32 → Int32 → Option (Int32)} (px0 : K x0 = some (.inl 2)) (hr5 : ∀ (x3 : Int32) (x4 : Int32), r5 x3 x4 = some v → Go Γ (0, 0) 5 [(0, .ref x0), (1, .int x1), (3, .int x3), (4, .int x4)] [] sz K h) : ∀ (k : Nat) (x5 : Int32), f2_serving_L18 K n x0 x1 x3 x4 h r5 k x5 = some v → Go Γ (0, 0) 18 [(0, .ref x0), (1, .int x1), (3, .int x3), (4, .int x4), (5, .int x5)] [] sz K h := by
  intro k
  induction k with
  | zero => intro x5 E; cases E
  | succ k ih =>
    intro x5 E
    unfold f2_serving_L18 at E
    refine g_iload (n := 5) X (by decide +kernel) 4 rfl ?_
    refine g_aload_n (n := 0) X (by decide +kernel) 0 rfl ?_
    refine g_getI X (by decide +kernel) fl2_24 px0 ?_
    rcases it_E E with ⟨c3, E⟩ | ⟨c3, E⟩
    · refine g_icmp_ge_t (off := 34) (tgt := 58) X (by decide +kernel) (by decide) c3 ?_
      refine g_iload_n (n := 3) X (by decide +kernel) 2 rfl ?_
      refine g_bipush (n := 27) (x := (27 : Int32)) X (by decide +kernel) (by decide) ?_
      refine g_idiv X (by decide +kernel) (by decide) ?_
      obtain ⟨x3_4, ex3_4, E⟩ := lt_E E
      refine s_istore_n (n := 3) (i := 3) X (by decide +kernel) rfl (by decide) ex3_4 (ls_next (by decide) (Or.inr rfl) (ls_next (by decide) (Or.inr rfl) (ls_here (ls_next (by decide) (Or.inr rfl) (ls_next (by decide) (Or.inr rfl) ls_end))))) ?_
      obtain ⟨x4_5, ex4_5, E⟩ := lt_E E
      refine s_iinc (i := 4) (n := 1) (y := x4_5) X (by decide +kernel) 3 rfl (by decide) ex4_5 (ls_next (by decide) (Or.inr rfl) (ls_next (by decide) (Or.inr rfl) (ls_next (by decide) (Or.inr rfl) (ls_here (ls_next (by decide) (Or.inr rfl) ls_end))))) ?_
      refine g_goto (off := -61) (tgt := 5) X (by decide +kernel) (by decide) ?_
      refine g_sub [0, 1, 2, 3] rfl ?_
      exact hr5 x3_4 x4_5  E
    · refine g_icmp_ge_f (off := 34) (tgt := 58) X (by decide +kernel) (by decide) c3 ?_
      refine g_aload_n (n := 0) X (by decide +kernel) 0 rfl ?_
      refine g_getS X (by decide +kernel) fl2_55 px0 ?_
      refine g_iload (n := 5) X (by decide +kernel) 4 rfl ?_
      obtain ⟨c6, E⟩ := gd_E E
      refine g_iald X (by decide +kernel) (ly hK px0 fl2_55 rfl) c6 ?_
      refine g_iload_n (n := 1) X (by decide +kernel) 1 rfl ?_
      rcases it_E E with ⟨c7, E⟩ | ⟨c7, E⟩
      · refine g_icmp_ne_f (off := 17) (tgt := 52) X (by decide +kernel) (by decide) (fun z => z c7) ?_
        refine g_aload_n (n := 0) X (by decide +kernel) 0 rfl ?_
        refine g_getS X (by decide +kernel) fl2_58 px0 ?_
        refine g_iload (n := 5) X (by decide +kernel) 4 rfl ?_
        obtain ⟨c8, E⟩ := gd_E E
        refine g_iald X (by decide +kernel) (ly hK px0 fl2_58 rfl) c8 ?_
        refine g_iload_n (n := 3) X (by decide +kernel) 2 rfl ?_
        rcases it_E E with ⟨c9, E⟩ | ⟨c9, E⟩
        · refine g_icmp_ne_f (off := 6) (tgt := 52) X (by decide +kernel) (by decide) (fun z => z c9) ?_
          refine g_iload (n := 5) X (by decide +kernel) 4 rfl ?_
          obtain rfl := Option.some.inj E
          exact g_ireturn X (by decide +kernel)
        · refine g_icmp_ne_t (off := 6) (tgt := 52) X (by decide +kernel) (by decide) c9 ?_
          obtain ⟨x5_10, ex5_10, E⟩ := lt_E E
          refine s_iinc (i := 5) (n := 1) (y := x5_10) X (by decide +kernel) 4 rfl (by decide) ex5_10 (ls_next (by decide) (Or.inr rfl) (ls_next (by decide) (Or.inr rfl) (ls_next (by decide) (Or.inr rfl) (ls_next (by decide) (Or.inr rfl) (ls_here ls_end))))) ?_
          refine g_goto (off := -37) (tgt := 18) X (by decide +kernel) (by decide) ?_
          exact ih x5_10  E
      · refine g_icmp_ne_t (off := 17) (tgt := 52) X (by decide +kernel) (by decide) c7 ?_
        obtain ⟨x5_11, ex5_11, E⟩ := lt_E E
        refine s_iinc (i := 5) (n := 1) (y := x5_11) X (by decide +kernel) 4 rfl (by decide) ex5_11 (ls_next (by decide) (Or.inr rfl) (ls_next (by decide) (Or.inr rfl) (ls_next (by decide) (Or.inr rfl) (ls_next (by decide) (Or.inr rfl) (ls_here ls_end))))) ?_
        refine g_goto (off := -37) (tgt := 18) X (by decide +kernel) (by decide) ?_
        exact ih x5_11  E
set_option maxHeartbeats 4000000 in
set_option maxRecDepth 20000 in
theorem w2_serving_L5 {Γ : CT} {sp : Sp} {K : Ly} {sz n : Nat} {v : Int32} {h : Hp}  (X : Ok Γ sp prog_7_method_14_code Rc2 6 (some (.int)) 1 (some (.int v)) sz K h) (hK : LyOk K) (x0 : Nat) (x1 : Int32)  (px0 : K x0 = some (.inl 2))  : ∀ (k : Nat) (x3 : Int32) (x4 : Int32), f2_serving_L5 K n x0 x1 h  k x3 x4 = some v → Go Γ (0, 0) 5 [(0, .ref x0), (1, .int x1), (3, .int x3), (4, .int x4)] [] sz K h := by
  intro k
  induction k with
  | zero => intro x3 x4 E; cases E
  | succ k ih =>
    intro x3 x4 E
    unfold f2_serving_L5 at E
    refine g_iload (n := 4) X (by decide +kernel) 3 rfl ?_
    refine g_iconst (n := 4) (x := (4 : Int32)) X (by decide +kernel) (by decide) ?_
    rcases it_E E with ⟨c1, E⟩ | ⟨c1, E⟩
    · refine g_icmp_ge_t (off := 61) (tgt := 69) X (by decide +kernel) (by decide) c1 ?_
      refine g_iconst (n := -1) (x := (-1 : Int32)) X (by decide +kernel) (by decide) ?_
      obtain rfl := Option.some.inj E
      exact g_ireturn X (by decide +kernel)
    · refine g_icmp_ge_f (off := 61) (tgt := 69) X (by decide +kernel) (by decide) c1 ?_
      refine g_iload_n (n := 3) X (by decide +kernel) 2 rfl ?_
      rcases it_E E with ⟨c2, E⟩ | ⟨c2, E⟩
      · refine g_if_le_t (off := 57) (tgt := 69) X (by decide +kernel) (by decide) c2 ?_
        refine g_iconst (n := -1) (x := (-1 : Int32)) X (by decide +kernel) (by decide) ?_
        obtain rfl := Option.some.inj E
        exact g_ireturn X (by decide +kernel)
      · refine g_if_le_f (off := 57) (tgt := 69) X (by decide +kernel) (by decide) c2 ?_
        refine g_iconst (n := 0) (x := (0 : Int32)) X (by decide +kernel) (by decide) ?_
        refine s_istore (i := 5) X (by decide +kernel) (by decide) rfl (ls_next (by decide) (Or.inr rfl) (ls_next (by decide) (Or.inr rfl) (ls_next (by decide) (Or.inr rfl) (ls_next (by decide) (Or.inr rfl) (ls_ins ls_end))))) ?_
        exact w2_serving_L18 X hK x0 x1 x3 x4 px0 ih n (0 : Int32) E
set_option maxHeartbeats 4000000 in
set_option maxRecDepth 20000 in
theorem c2_serving {sp : Sp} {K : Ly} {sz n : Nat} (hK : LyOk K) (o : Nat) (a1 : Int32) (a2 : Int32) (h : Hp) (ho : K o = some (.inl 2)) {v : Int32} (E : f2_serving K n o a1 a2 h = some v) : Con sp y2_serving prog_7_method_14_code 6 (some (.int)) 1 0 0 [.ref o, .int a1, .int a2] sz K h (some (.int v)) sz K h := by
  refine Con.of (by decide) (Nat.le_of_ble_eq_true rfl) (fun Γ X _ => ?_)
  show Go Γ (0, 0) 0 [(0, .ref o), (1, .int a1), (2, .int a2)] [] sz K h
  unfold f2_serving at E
  refine g_iload_n (n := 2) X (by decide +kernel) 2 rfl ?_
  refine s_istore_n (n := 3) (i := 3) X (by decide +kernel) rfl (by decide) rfl (ls_next (by decide) (Or.inr rfl) (ls_next (by decide) (Or.inr rfl) (ls_next (by decide) (Or.inr rfl) (ls_ins ls_end)))) ?_
  refine g_iconst (n := 0) (x := (0 : Int32)) X (by decide +kernel) (by decide) ?_
  refine s_istore (i := 4) X (by decide +kernel) (by decide) rfl (ls_next (by decide) (Or.inr rfl) (ls_next (by decide) (Or.inr rfl) (ls_next (by decide) (Or.inr rfl) (ls_next (by decide) (Or.inr rfl) (ls_ins ls_end))))) ?_
  refine g_sub [0, 1, 3, 4] rfl ?_
  exact w2_serving_L5 X hK o a1 ho n a2 (0 : Int32) E
-- Net.routed
def f2_routed_L18 (K : Ly) (n : Nat) (x0 : Nat) (x1 : Int32) (x3 : Int32) (x4 : Int32) (h : Hp) (r5 : Int32 → Int32 → Option (Int32)) : Nat → Int32 → Option (Int32)
  | 0, _ => none
  | k + 1, x5 =>
    if (h.1 x0 3) ≤ x5 then (
    lt (x3 / (27 : Int32)) fun x3_4 =>
    lt (x4 + (1 : Int32)) fun x4_5 =>
    r5 x3_4 x4_5)
    else (
    gd (inb x5 12) <|
    if (h.1 (x0 + 6) x5.toNatClampNeg) = x1 then (
    gd (inb x5 12) <|
    if (h.1 (x0 + 7) x5.toNatClampNeg) = x3 then (
    some x3)
    else (
    lt (x5 + (1 : Int32)) fun x5_10 =>
    f2_routed_L18 K n x0 x1 x3 x4 h r5 k x5_10))
    else (
    lt (x5 + (1 : Int32)) fun x5_11 =>
    f2_routed_L18 K n x0 x1 x3 x4 h r5 k x5_11))
def f2_routed_L5 (K : Ly) (n : Nat) (x0 : Nat) (x1 : Int32) (h : Hp)  : Nat → Int32 → Int32 → Option (Int32)
  | 0, _, _ => none
  | k + 1, x3, x4 =>
    if (4 : Int32) ≤ x4 then (
    some (0 : Int32))
    else (
    if x3 ≤ 0 then (
    some (0 : Int32))
    else (
    f2_routed_L18 K n x0 x1 x3 x4 h (f2_routed_L5 K n x0 x1 h  k) n (0 : Int32)))
def f2_routed (K : Ly) (n : Nat) (o : Nat) (a1 : Int32) (a2 : Int32) (h : Hp) : Option (Int32) :=
    f2_routed_L5 K n o a1 h n a2 (0 : Int32)
set_option maxHeartbeats 4000000 in
set_option maxRecDepth 20000 in
theorem w2_routed_L18 {Γ : CT} {sp : Sp} {K : Ly} {sz n : Nat} {v : Int32} {h : Hp}  (X : Ok Γ sp prog_7_method_12_code Rc2 6 (some (.int)) 1 (some (.int v)) sz K h) (hK : LyOk K) (x0 : Nat) (x1 : Int32) (x3 : Int32) (x4 : Int32)  {r5 : Int32 → Int32 → Option (Int32)} (px0 : K x0 = some (.inl 2)) (hr5 : ∀ (x3 : Int32) (x4 : Int32), r5 x3 x4 = some v → Go Γ (0, 0) 5 [(0, .ref x0), (1, .int x1), (3, .int x3), (4, .int x4)] [] sz K h) : ∀ (k : Nat) (x5 : Int32), f2_routed_L18 K n x0 x1 x3 x4 h r5 k x5 = some v → Go Γ (0, 0) 18 [(0, .ref x0), (1, .int x1), (3, .int x3), (4, .int x4), (5, .int x5)] [] sz K h := by
  intro k
  induction k with
  | zero => intro x5 E; cases E
  | succ k ih =>
    intro x5 E
    unfold f2_routed_L18 at E
    refine g_iload (n := 5) X (by decide +kernel) 4 rfl ?_
    refine g_aload_n (n := 0) X (by decide +kernel) 0 rfl ?_
    refine g_getI X (by decide +kernel) fl2_21 px0 ?_
    rcases it_E E with ⟨c3, E⟩ | ⟨c3, E⟩
    · refine g_icmp_ge_t (off := 33) (tgt := 57) X (by decide +kernel) (by decide) c3 ?_
      refine g_iload_n (n := 3) X (by decide +kernel) 2 rfl ?_
      refine g_bipush (n := 27) (x := (27 : Int32)) X (by decide +kernel) (by decide) ?_
      refine g_idiv X (by decide +kernel) (by decide) ?_
      obtain ⟨x3_4, ex3_4, E⟩ := lt_E E
      refine s_istore_n (n := 3) (i := 3) X (by decide +kernel) rfl (by decide) ex3_4 (ls_next (by decide) (Or.inr rfl) (ls_next (by decide) (Or.inr rfl) (ls_here (ls_next (by decide) (Or.inr rfl) (ls_next (by decide) (Or.inr rfl) ls_end))))) ?_
      obtain ⟨x4_5, ex4_5, E⟩ := lt_E E
      refine s_iinc (i := 4) (n := 1) (y := x4_5) X (by decide +kernel) 3 rfl (by decide) ex4_5 (ls_next (by decide) (Or.inr rfl) (ls_next (by decide) (Or.inr rfl) (ls_next (by decide) (Or.inr rfl) (ls_here (ls_next (by decide) (Or.inr rfl) ls_end))))) ?_
      refine g_goto (off := -60) (tgt := 5) X (by decide +kernel) (by decide) ?_
      refine g_sub [0, 1, 2, 3] rfl ?_
      exact hr5 x3_4 x4_5  E
    · refine g_icmp_ge_f (off := 33) (tgt := 57) X (by decide +kernel) (by decide) c3 ?_
      refine g_aload_n (n := 0) X (by decide +kernel) 0 rfl ?_
      refine g_getS X (by decide +kernel) fl2_43 px0 ?_
      refine g_iload (n := 5) X (by decide +kernel) 4 rfl ?_
      obtain ⟨c6, E⟩ := gd_E E
      refine g_iald X (by decide +kernel) (ly hK px0 fl2_43 rfl) c6 ?_
      refine g_iload_n (n := 1) X (by decide +kernel) 1 rfl ?_
      rcases it_E E with ⟨c7, E⟩ | ⟨c7, E⟩
      · refine g_icmp_ne_f (off := 16) (tgt := 51) X (by decide +kernel) (by decide) (fun z => z c7) ?_
        refine g_aload_n (n := 0) X (by decide +kernel) 0 rfl ?_
        refine g_getS X (by decide +kernel) fl2_46 px0 ?_
        refine g_iload (n := 5) X (by decide +kernel) 4 rfl ?_
        obtain ⟨c8, E⟩ := gd_E E
        refine g_iald X (by decide +kernel) (ly hK px0 fl2_46 rfl) c8 ?_
        refine g_iload_n (n := 3) X (by decide +kernel) 2 rfl ?_
        rcases it_E E with ⟨c9, E⟩ | ⟨c9, E⟩
        · refine g_icmp_ne_f (off := 5) (tgt := 51) X (by decide +kernel) (by decide) (fun z => z c9) ?_
          refine g_iload_n (n := 3) X (by decide +kernel) 2 rfl ?_
          obtain rfl := Option.some.inj E
          exact g_ireturn X (by decide +kernel)
        · refine g_icmp_ne_t (off := 5) (tgt := 51) X (by decide +kernel) (by decide) c9 ?_
          obtain ⟨x5_10, ex5_10, E⟩ := lt_E E
          refine s_iinc (i := 5) (n := 1) (y := x5_10) X (by decide +kernel) 4 rfl (by decide) ex5_10 (ls_next (by decide) (Or.inr rfl) (ls_next (by decide) (Or.inr rfl) (ls_next (by decide) (Or.inr rfl) (ls_next (by decide) (Or.inr rfl) (ls_here ls_end))))) ?_
          refine g_goto (off := -36) (tgt := 18) X (by decide +kernel) (by decide) ?_
          exact ih x5_10  E
      · refine g_icmp_ne_t (off := 16) (tgt := 51) X (by decide +kernel) (by decide) c7 ?_
        obtain ⟨x5_11, ex5_11, E⟩ := lt_E E
        refine s_iinc (i := 5) (n := 1) (y := x5_11) X (by decide +kernel) 4 rfl (by decide) ex5_11 (ls_next (by decide) (Or.inr rfl) (ls_next (by decide) (Or.inr rfl) (ls_next (by decide) (Or.inr rfl) (ls_next (by decide) (Or.inr rfl) (ls_here ls_end))))) ?_
        refine g_goto (off := -36) (tgt := 18) X (by decide +kernel) (by decide) ?_
        exact ih x5_11  E
set_option maxHeartbeats 4000000 in
set_option maxRecDepth 20000 in
theorem w2_routed_L5 {Γ : CT} {sp : Sp} {K : Ly} {sz n : Nat} {v : Int32} {h : Hp}  (X : Ok Γ sp prog_7_method_12_code Rc2 6 (some (.int)) 1 (some (.int v)) sz K h) (hK : LyOk K) (x0 : Nat) (x1 : Int32)  (px0 : K x0 = some (.inl 2))  : ∀ (k : Nat) (x3 : Int32) (x4 : Int32), f2_routed_L5 K n x0 x1 h  k x3 x4 = some v → Go Γ (0, 0) 5 [(0, .ref x0), (1, .int x1), (3, .int x3), (4, .int x4)] [] sz K h := by
  intro k
  induction k with
  | zero => intro x3 x4 E; cases E
  | succ k ih =>
    intro x3 x4 E
    unfold f2_routed_L5 at E
    refine g_iload (n := 4) X (by decide +kernel) 3 rfl ?_
    refine g_iconst (n := 4) (x := (4 : Int32)) X (by decide +kernel) (by decide) ?_
    rcases it_E E with ⟨c1, E⟩ | ⟨c1, E⟩
    · refine g_icmp_ge_t (off := 60) (tgt := 68) X (by decide +kernel) (by decide) c1 ?_
      refine g_iconst (n := 0) (x := (0 : Int32)) X (by decide +kernel) (by decide) ?_
      obtain rfl := Option.some.inj E
      exact g_ireturn X (by decide +kernel)
    · refine g_icmp_ge_f (off := 60) (tgt := 68) X (by decide +kernel) (by decide) c1 ?_
      refine g_iload_n (n := 3) X (by decide +kernel) 2 rfl ?_
      rcases it_E E with ⟨c2, E⟩ | ⟨c2, E⟩
      · refine g_if_le_t (off := 56) (tgt := 68) X (by decide +kernel) (by decide) c2 ?_
        refine g_iconst (n := 0) (x := (0 : Int32)) X (by decide +kernel) (by decide) ?_
        obtain rfl := Option.some.inj E
        exact g_ireturn X (by decide +kernel)
      · refine g_if_le_f (off := 56) (tgt := 68) X (by decide +kernel) (by decide) c2 ?_
        refine g_iconst (n := 0) (x := (0 : Int32)) X (by decide +kernel) (by decide) ?_
        refine s_istore (i := 5) X (by decide +kernel) (by decide) rfl (ls_next (by decide) (Or.inr rfl) (ls_next (by decide) (Or.inr rfl) (ls_next (by decide) (Or.inr rfl) (ls_next (by decide) (Or.inr rfl) (ls_ins ls_end))))) ?_
        exact w2_routed_L18 X hK x0 x1 x3 x4 px0 ih n (0 : Int32) E
set_option maxHeartbeats 4000000 in
set_option maxRecDepth 20000 in
theorem c2_routed {sp : Sp} {K : Ly} {sz n : Nat} (hK : LyOk K) (o : Nat) (a1 : Int32) (a2 : Int32) (h : Hp) (ho : K o = some (.inl 2)) {v : Int32} (E : f2_routed K n o a1 a2 h = some v) : Con sp y2_routed prog_7_method_12_code 6 (some (.int)) 1 0 0 [.ref o, .int a1, .int a2] sz K h (some (.int v)) sz K h := by
  refine Con.of (by decide) (Nat.le_of_ble_eq_true rfl) (fun Γ X _ => ?_)
  show Go Γ (0, 0) 0 [(0, .ref o), (1, .int a1), (2, .int a2)] [] sz K h
  unfold f2_routed at E
  refine g_iload_n (n := 2) X (by decide +kernel) 2 rfl ?_
  refine s_istore_n (n := 3) (i := 3) X (by decide +kernel) rfl (by decide) rfl (ls_next (by decide) (Or.inr rfl) (ls_next (by decide) (Or.inr rfl) (ls_next (by decide) (Or.inr rfl) (ls_ins ls_end)))) ?_
  refine g_iconst (n := 0) (x := (0 : Int32)) X (by decide +kernel) (by decide) ?_
  refine s_istore (i := 4) X (by decide +kernel) (by decide) rfl (ls_next (by decide) (Or.inr rfl) (ls_next (by decide) (Or.inr rfl) (ls_next (by decide) (Or.inr rfl) (ls_next (by decide) (Or.inr rfl) (ls_ins ls_end))))) ?_
  refine g_sub [0, 1, 3, 4] rfl ?_
  exact w2_routed_L5 X hK o a1 ho n a2 (0 : Int32) E
-- Net.linkBetween
def f2_linkBetween (K : Ly) (n : Nat) (o : Nat) (a1 : Int32) (a2 : Int32) (h : Hp) : Option (Int32) :=
    if (f2_hasNode o a1 h) = 0 then (
    some (-1 : Int32))
    else (
    if (f2_hasNode o a2 h) = 0 then (
    some (-1 : Int32))
    else (
    gd (inb ((a1 * (6 : Int32)) + a2) 36) <|
    some (h.1 (o + 5) ((a1 * (6 : Int32)) + a2).toNatClampNeg)))
set_option maxHeartbeats 4000000 in
set_option maxRecDepth 20000 in
theorem c2_linkBetween {sp : Sp} {K : Ly} {sz n : Nat} (hK : LyOk K) (o : Nat) (a1 : Int32) (a2 : Int32) (h : Hp) (ho : K o = some (.inl 2)) {v : Int32} (E : f2_linkBetween K n o a1 a2 h = some v) : Con sp y2_linkBetween prog_7_method_8_code 3 (some (.int)) 2 0 0 [.ref o, .int a1, .int a2] sz K h (some (.int v)) sz K h := by
  refine Con.of (by decide) (Nat.le_of_ble_eq_true rfl) (fun Γ X _ => ?_)
  show Go Γ (0, 0) 0 [(0, .ref o), (1, .int a1), (2, .int a2)] [] sz K h
  unfold f2_linkBetween at E
  refine g_aload_n (n := 0) X (by decide +kernel) 0 rfl ?_
  refine g_iload_n (n := 1) X (by decide +kernel) 1 rfl ?_
  refine g_callV1 (st := []) X [.int a1] (by decide +kernel) ml2_76 ho rfl rfl (by decide) (Nat.le_of_ble_eq_true rfl) (c2_hasNode hK o a1 h ho) ?_
  rcases it_E E with ⟨c1, E⟩ | ⟨c1, E⟩
  · refine g_if_eq_t (off := 25) (tgt := 30) X (by decide +kernel) (by decide) c1 ?_
    refine g_iconst (n := -1) (x := (-1 : Int32)) X (by decide +kernel) (by decide) ?_
    obtain rfl := Option.some.inj E
    exact g_ireturn X (by decide +kernel)
  · refine g_if_eq_f (off := 25) (tgt := 30) X (by decide +kernel) (by decide) c1 ?_
    refine g_aload_n (n := 0) X (by decide +kernel) 0 rfl ?_
    refine g_iload_n (n := 2) X (by decide +kernel) 2 rfl ?_
    refine g_callV1 (st := []) X [.int a2] (by decide +kernel) ml2_76 ho rfl rfl (by decide) (Nat.le_of_ble_eq_true rfl) (c2_hasNode hK o a2 h ho) ?_
    rcases it_E E with ⟨c2, E⟩ | ⟨c2, E⟩
    · refine g_if_eq_t (off := 17) (tgt := 30) X (by decide +kernel) (by decide) c2 ?_
      refine g_iconst (n := -1) (x := (-1 : Int32)) X (by decide +kernel) (by decide) ?_
      obtain rfl := Option.some.inj E
      exact g_ireturn X (by decide +kernel)
    · refine g_if_eq_f (off := 17) (tgt := 30) X (by decide +kernel) (by decide) c2 ?_
      refine g_aload_n (n := 0) X (by decide +kernel) 0 rfl ?_
      refine g_getS X (by decide +kernel) fl2_40 ho ?_
      refine g_iload_n (n := 1) X (by decide +kernel) 1 rfl ?_
      refine g_bipush (n := 6) (x := (6 : Int32)) X (by decide +kernel) (by decide) ?_
      refine g_imul X (by decide +kernel) ?_
      refine g_iload_n (n := 2) X (by decide +kernel) 2 rfl ?_
      refine g_iadd X (by decide +kernel) ?_
      obtain ⟨c3, E⟩ := gd_E E
      refine g_iald X (by decide +kernel) (ly hK ho fl2_40 rfl) c3 ?_
      refine g_goto (off := 4) (tgt := 31) X (by decide +kernel) (by decide) ?_
      obtain rfl := Option.some.inj E
      exact g_ireturn X (by decide +kernel)
-- AskedNames.isName
def f0_isName_J33 (K : Ly) (n : Nat)  (x0 : Int32) (x1 : Int32) (h : Hp) : Option (Int32) :=
    some (if x0 ≤ 0 then (0 : Int32) else (if x1 = 0 then (1 : Int32) else (0 : Int32)))
def f0_isName_L4 (K : Ly) (n : Nat) (x0 : Int32) (h : Hp)  : Nat → Int32 → Int32 → Option (Int32)
  | 0, _, _ => none
  | k + 1, x1, x2 =>
    if (4 : Int32) ≤ x2 then (
    f0_isName_J33 K n x0 x1 h)
    else (
    if x1 ≤ 0 then (
    f0_isName_J33 K n x0 x1 h)
    else (
    if (x1 - x1 / (27 : Int32) * (27 : Int32)) = 0 then (
    some (0 : Int32))
    else (
    lt (x1 / (27 : Int32)) fun x1_4 =>
    lt (x2 + (1 : Int32)) fun x2_5 =>
    f0_isName_L4 K n x0 h  k x1_4 x2_5)))
def f0_isName (K : Ly) (n : Nat) (a0 : Int32) (h : Hp) : Option (Int32) :=
    f0_isName_L4 K n a0 h n a0 (0 : Int32)
set_option maxHeartbeats 4000000 in
set_option maxRecDepth 20000 in
theorem w0_isName_J33 {Γ : CT} {sp : Sp} {K : Ly} {sz n : Nat} {v : Int32} {h : Hp}   (X : Ok Γ sp prog_1_method_35_code Rc0 3 (some (.boolean)) 1 (some (.int v)) sz K h) (hK : LyOk K) (x0 : Int32) (x1 : Int32)    (E : f0_isName_J33 K n x0 x1 h = some v) : Go Γ (0, 0) 33 [(0, .int x0), (1, .int x1)] [] sz K h := by
  unfold f0_isName_J33 at E
  refine g_iload_n (n := 0) X (by decide +kernel) 0 rfl ?_
  have hJ : Go Γ (0, 0) 46 [] [.int (if x0 ≤ 0 then (0 : Int32) else (if x1 = 0 then (1 : Int32) else (0 : Int32)))] sz K h := by
    obtain rfl := Option.some.inj E
    exact g_zreturn X (by decide +kernel) (by (repeat' split) <;> rfl)
  clear E
  by_cases c6 : x0 ≤ 0
  · rw [if_pos c6] at hJ
    refine g_if_le_t (off := 11) (tgt := 45) X (by decide +kernel) (by decide) c6 ?_
    refine g_iconst (n := 0) (x := (0 : Int32)) X (by decide +kernel) (by decide) ?_
    refine g_sub [] rfl ?_
    exact hJ
  · rw [if_neg c6] at hJ
    refine g_if_le_f (off := 11) (tgt := 45) X (by decide +kernel) (by decide) c6 ?_
    refine g_iload_n (n := 1) X (by decide +kernel) 1 rfl ?_
    by_cases c7 : x1 = 0
    · rw [if_pos c7] at hJ
      refine g_if_ne_f (off := 7) (tgt := 45) X (by decide +kernel) (by decide) (fun z => z c7) ?_
      refine g_iconst (n := 1) (x := (1 : Int32)) X (by decide +kernel) (by decide) ?_
      refine g_goto (off := 4) (tgt := 46) X (by decide +kernel) (by decide) ?_
      refine g_sub [] rfl ?_
      exact hJ
    · rw [if_neg c7] at hJ
      refine g_if_ne_t (off := 7) (tgt := 45) X (by decide +kernel) (by decide) c7 ?_
      refine g_iconst (n := 0) (x := (0 : Int32)) X (by decide +kernel) (by decide) ?_
      refine g_sub [] rfl ?_
      exact hJ
set_option maxHeartbeats 4000000 in
set_option maxRecDepth 20000 in
theorem w0_isName_L4 {Γ : CT} {sp : Sp} {K : Ly} {sz n : Nat} {v : Int32} {h : Hp}  (X : Ok Γ sp prog_1_method_35_code Rc0 3 (some (.boolean)) 1 (some (.int v)) sz K h) (hK : LyOk K) (x0 : Int32)    : ∀ (k : Nat) (x1 : Int32) (x2 : Int32), f0_isName_L4 K n x0 h  k x1 x2 = some v → Go Γ (0, 0) 4 [(0, .int x0), (1, .int x1), (2, .int x2)] [] sz K h := by
  intro k
  induction k with
  | zero => intro x1 x2 E; cases E
  | succ k ih =>
    intro x1 x2 E
    unfold f0_isName_L4 at E
    refine g_iload_n (n := 2) X (by decide +kernel) 2 rfl ?_
    refine g_iconst (n := 4) (x := (4 : Int32)) X (by decide +kernel) (by decide) ?_
    rcases it_E E with ⟨c1, E⟩ | ⟨c1, E⟩
    · refine g_icmp_ge_t (off := 27) (tgt := 33) X (by decide +kernel) (by decide) c1 ?_
      refine g_sub [0, 1] rfl ?_
      exact w0_isName_J33 X hK x0 x1 E
    · refine g_icmp_ge_f (off := 27) (tgt := 33) X (by decide +kernel) (by decide) c1 ?_
      refine g_iload_n (n := 1) X (by decide +kernel) 1 rfl ?_
      rcases it_E E with ⟨c2, E⟩ | ⟨c2, E⟩
      · refine g_if_le_t (off := 23) (tgt := 33) X (by decide +kernel) (by decide) c2 ?_
        refine g_sub [0, 1] rfl ?_
        exact w0_isName_J33 X hK x0 x1 E
      · refine g_if_le_f (off := 23) (tgt := 33) X (by decide +kernel) (by decide) c2 ?_
        refine g_iload_n (n := 1) X (by decide +kernel) 1 rfl ?_
        refine g_bipush (n := 27) (x := (27 : Int32)) X (by decide +kernel) (by decide) ?_
        refine g_irem X (by decide +kernel) (by decide) ?_
        rcases it_E E with ⟨c3, E⟩ | ⟨c3, E⟩
        · refine g_if_ne_f (off := 5) (tgt := 22) X (by decide +kernel) (by decide) (fun z => z c3) ?_
          refine g_iconst (n := 0) (x := (0 : Int32)) X (by decide +kernel) (by decide) ?_
          obtain rfl := Option.some.inj E
          exact g_zreturn X (by decide +kernel) rfl
        · refine g_if_ne_t (off := 5) (tgt := 22) X (by decide +kernel) (by decide) c3 ?_
          refine g_iload_n (n := 1) X (by decide +kernel) 1 rfl ?_
          refine g_bipush (n := 27) (x := (27 : Int32)) X (by decide +kernel) (by decide) ?_
          refine g_idiv X (by decide +kernel) (by decide) ?_
          obtain ⟨x1_4, ex1_4, E⟩ := lt_E E
          refine s_istore_n (n := 1) (i := 1) X (by decide +kernel) rfl (by decide) ex1_4 (ls_next (by decide) (Or.inr rfl) (ls_here (ls_next (by decide) (Or.inr rfl) ls_end))) ?_
          obtain ⟨x2_5, ex2_5, E⟩ := lt_E E
          refine s_iinc (i := 2) (n := 1) (y := x2_5) X (by decide +kernel) 2 rfl (by decide) ex2_5 (ls_next (by decide) (Or.inr rfl) (ls_next (by decide) (Or.inr rfl) (ls_here ls_end))) ?_
          refine g_goto (off := -26) (tgt := 4) X (by decide +kernel) (by decide) ?_
          exact ih x1_4 x2_5  E
set_option maxHeartbeats 4000000 in
set_option maxRecDepth 20000 in
theorem c0_isName {sp : Sp} {K : Ly} {sz n : Nat} (hK : LyOk K) (a0 : Int32) (h : Hp)  {v : Int32} (E : f0_isName K n a0 h = some v) : Con sp y0_isName prog_1_method_35_code 3 (some (.boolean)) 1 0 0 [.int a0] sz K h (some (.int v)) sz K h := by
  refine Con.of (by decide) (Nat.le_of_ble_eq_true rfl) (fun Γ X _ => ?_)
  show Go Γ (0, 0) 0 [(0, .int a0)] [] sz K h
  unfold f0_isName at E
  refine g_iload_n (n := 0) X (by decide +kernel) 0 rfl ?_
  refine s_istore_n (n := 1) (i := 1) X (by decide +kernel) rfl (by decide) rfl (ls_next (by decide) (Or.inr rfl) (ls_ins ls_end)) ?_
  refine g_iconst (n := 0) (x := (0 : Int32)) X (by decide +kernel) (by decide) ?_
  refine s_istore_n (n := 2) (i := 2) X (by decide +kernel) rfl (by decide) rfl (ls_next (by decide) (Or.inr rfl) (ls_next (by decide) (Or.inr rfl) (ls_ins ls_end))) ?_
  exact w0_isName_L4 X hK a0 n a0 (0 : Int32) E
-- AskedNames.begins
def f0_begins_L4 (K : Ly) (n : Nat) (x1 : Int32) (h : Hp)  : Nat → Int32 → Int32 → Option (Int32)
  | 0, _, _ => none
  | k + 1, x2, x3 =>
    if (4 : Int32) ≤ x3 then (
    some (0 : Int32))
    else (
    if x2 ≤ 0 then (
    some (0 : Int32))
    else (
    if x2 = x1 then (
    some (1 : Int32))
    else (
    lt (x2 / (27 : Int32)) fun x2_4 =>
    lt (x3 + (1 : Int32)) fun x3_5 =>
    f0_begins_L4 K n x1 h  k x2_4 x3_5)))
def f0_begins (K : Ly) (n : Nat) (a0 : Int32) (a1 : Int32) (h : Hp) : Option (Int32) :=
    f0_begins_L4 K n a1 h n a0 (0 : Int32)
set_option maxHeartbeats 4000000 in
set_option maxRecDepth 20000 in
theorem w0_begins_L4 {Γ : CT} {sp : Sp} {K : Ly} {sz n : Nat} {v : Int32} {h : Hp}  (X : Ok Γ sp prog_1_method_37_code Rc0 4 (some (.boolean)) 1 (some (.int v)) sz K h) (hK : LyOk K) (x1 : Int32)    : ∀ (k : Nat) (x2 : Int32) (x3 : Int32), f0_begins_L4 K n x1 h  k x2 x3 = some v → Go Γ (0, 0) 4 [(1, .int x1), (2, .int x2), (3, .int x3)] [] sz K h := by
  intro k
  induction k with
  | zero => intro x2 x3 E; cases E
  | succ k ih =>
    intro x2 x3 E
    unfold f0_begins_L4 at E
    refine g_iload_n (n := 3) X (by decide +kernel) 2 rfl ?_
    refine g_iconst (n := 4) (x := (4 : Int32)) X (by decide +kernel) (by decide) ?_
    rcases it_E E with ⟨c1, E⟩ | ⟨c1, E⟩
    · refine g_icmp_ge_t (off := 25) (tgt := 31) X (by decide +kernel) (by decide) c1 ?_
      refine g_iconst (n := 0) (x := (0 : Int32)) X (by decide +kernel) (by decide) ?_
      obtain rfl := Option.some.inj E
      exact g_zreturn X (by decide +kernel) rfl
    · refine g_icmp_ge_f (off := 25) (tgt := 31) X (by decide +kernel) (by decide) c1 ?_
      refine g_iload_n (n := 2) X (by decide +kernel) 1 rfl ?_
      rcases it_E E with ⟨c2, E⟩ | ⟨c2, E⟩
      · refine g_if_le_t (off := 21) (tgt := 31) X (by decide +kernel) (by decide) c2 ?_
        refine g_iconst (n := 0) (x := (0 : Int32)) X (by decide +kernel) (by decide) ?_
        obtain rfl := Option.some.inj E
        exact g_zreturn X (by decide +kernel) rfl
      · refine g_if_le_f (off := 21) (tgt := 31) X (by decide +kernel) (by decide) c2 ?_
        refine g_iload_n (n := 2) X (by decide +kernel) 1 rfl ?_
        refine g_iload_n (n := 1) X (by decide +kernel) 0 rfl ?_
        rcases it_E E with ⟨c3, E⟩ | ⟨c3, E⟩
        · refine g_icmp_ne_f (off := 5) (tgt := 20) X (by decide +kernel) (by decide) (fun z => z c3) ?_
          refine g_iconst (n := 1) (x := (1 : Int32)) X (by decide +kernel) (by decide) ?_
          obtain rfl := Option.some.inj E
          exact g_zreturn X (by decide +kernel) rfl
        · refine g_icmp_ne_t (off := 5) (tgt := 20) X (by decide +kernel) (by decide) c3 ?_
          refine g_iload_n (n := 2) X (by decide +kernel) 1 rfl ?_
          refine g_bipush (n := 27) (x := (27 : Int32)) X (by decide +kernel) (by decide) ?_
          refine g_idiv X (by decide +kernel) (by decide) ?_
          obtain ⟨x2_4, ex2_4, E⟩ := lt_E E
          refine s_istore_n (n := 2) (i := 2) X (by decide +kernel) rfl (by decide) ex2_4 (ls_next (by decide) (Or.inr rfl) (ls_here (ls_next (by decide) (Or.inr rfl) ls_end))) ?_
          obtain ⟨x3_5, ex3_5, E⟩ := lt_E E
          refine s_iinc (i := 3) (n := 1) (y := x3_5) X (by decide +kernel) 2 rfl (by decide) ex3_5 (ls_next (by decide) (Or.inr rfl) (ls_next (by decide) (Or.inr rfl) (ls_here ls_end))) ?_
          refine g_goto (off := -24) (tgt := 4) X (by decide +kernel) (by decide) ?_
          exact ih x2_4 x3_5  E
set_option maxHeartbeats 4000000 in
set_option maxRecDepth 20000 in
theorem c0_begins {sp : Sp} {K : Ly} {sz n : Nat} (hK : LyOk K) (a0 : Int32) (a1 : Int32) (h : Hp)  {v : Int32} (E : f0_begins K n a0 a1 h = some v) : Con sp y0_begins prog_1_method_37_code 4 (some (.boolean)) 1 0 0 [.int a0, .int a1] sz K h (some (.int v)) sz K h := by
  refine Con.of (by decide) (Nat.le_of_ble_eq_true rfl) (fun Γ X _ => ?_)
  show Go Γ (0, 0) 0 [(0, .int a0), (1, .int a1)] [] sz K h
  unfold f0_begins at E
  refine g_iload_n (n := 0) X (by decide +kernel) 0 rfl ?_
  refine s_istore_n (n := 2) (i := 2) X (by decide +kernel) rfl (by decide) rfl (ls_next (by decide) (Or.inr rfl) (ls_next (by decide) (Or.inr rfl) (ls_ins ls_end))) ?_
  refine g_iconst (n := 0) (x := (0 : Int32)) X (by decide +kernel) (by decide) ?_
  refine s_istore_n (n := 3) (i := 3) X (by decide +kernel) rfl (by decide) rfl (ls_next (by decide) (Or.inr rfl) (ls_next (by decide) (Or.inr rfl) (ls_next (by decide) (Or.inr rfl) (ls_ins ls_end)))) ?_
  refine g_sub [1, 2, 3] rfl ?_
  exact w0_begins_L4 X hK a1 n a0 (0 : Int32) E
-- Net.rowBefore
def f2_rowBefore_L2 (K : Ly) (n : Nat) (x0 : Nat) (x1 : Int32) (x2 : Int32) (h : Hp)  : Nat → Int32 → Option (Int32)
  | 0, _ => none
  | k + 1, x3 =>
    if x1 ≤ x3 then (
    some (0 : Int32))
    else (
    gd (inb x3 12) <|
    gd (inb x1 12) <|
    if (h.1 (x0 + 6) x3.toNatClampNeg) = (h.1 (x0 + 6) x1.toNatClampNeg) then (
    gd (inb x3 12) <|
    bp (f0_begins K n (h.1 (x0 + 7) x3.toNatClampNeg) x2 h) fun y7 =>
    if y7 = 0 then (
    lt (x3 + (1 : Int32)) fun x3_9 =>
    f2_rowBefore_L2 K n x0 x1 x2 h  k x3_9)
    else (
    some (1 : Int32)))
    else (
    lt (x3 + (1 : Int32)) fun x3_10 =>
    f2_rowBefore_L2 K n x0 x1 x2 h  k x3_10))
def f2_rowBefore (K : Ly) (n : Nat) (o : Nat) (a1 : Int32) (a2 : Int32) (h : Hp) : Option (Int32) :=
    f2_rowBefore_L2 K n o a1 a2 h n (0 : Int32)
set_option maxHeartbeats 4000000 in
set_option maxRecDepth 20000 in
theorem w2_rowBefore_L2 {Γ : CT} {sp : Sp} {K : Ly} {sz n : Nat} {v : Int32} {h : Hp}  (X : Ok Γ sp prog_7_method_17_code Rc2 4 (some (.boolean)) 2 (some (.int v)) sz K h) (hK : LyOk K) (x0 : Nat) (x1 : Int32) (x2 : Int32)  (px0 : K x0 = some (.inl 2))  : ∀ (k : Nat) (x3 : Int32), f2_rowBefore_L2 K n x0 x1 x2 h  k x3 = some v → Go Γ (0, 0) 2 [(0, .ref x0), (1, .int x1), (2, .int x2), (3, .int x3)] [] sz K h := by
  intro k
  induction k with
  | zero => intro x3 E; cases E
  | succ k ih =>
    intro x3 E
    unfold f2_rowBefore_L2 at E
    refine g_iload_n (n := 3) X (by decide +kernel) 3 rfl ?_
    refine g_iload_n (n := 1) X (by decide +kernel) 1 rfl ?_
    rcases it_E E with ⟨c1, E⟩ | ⟨c1, E⟩
    · refine g_icmp_ge_t (off := 39) (tgt := 43) X (by decide +kernel) (by decide) c1 ?_
      refine g_iconst (n := 0) (x := (0 : Int32)) X (by decide +kernel) (by decide) ?_
      obtain rfl := Option.some.inj E
      exact g_zreturn X (by decide +kernel) rfl
    · refine g_icmp_ge_f (off := 39) (tgt := 43) X (by decide +kernel) (by decide) c1 ?_
      refine g_aload_n (n := 0) X (by decide +kernel) 0 rfl ?_
      refine g_getS X (by decide +kernel) fl2_43 px0 ?_
      refine g_iload_n (n := 3) X (by decide +kernel) 3 rfl ?_
      obtain ⟨c2, E⟩ := gd_E E
      refine g_iald X (by decide +kernel) (ly hK px0 fl2_43 rfl) c2 ?_
      refine g_aload_n (n := 0) X (by decide +kernel) 0 rfl ?_
      refine g_getS X (by decide +kernel) fl2_43 px0 ?_
      refine g_iload_n (n := 1) X (by decide +kernel) 1 rfl ?_
      obtain ⟨c3, E⟩ := gd_E E
      refine g_iald X (by decide +kernel) (ly hK px0 fl2_43 rfl) c3 ?_
      rcases it_E E with ⟨c4, E⟩ | ⟨c4, E⟩
      · refine g_icmp_ne_f (off := 18) (tgt := 37) X (by decide +kernel) (by decide) (fun z => z c4) ?_
        refine g_aload_n (n := 0) X (by decide +kernel) 0 rfl ?_
        refine g_getS X (by decide +kernel) fl2_46 px0 ?_
        refine g_iload_n (n := 3) X (by decide +kernel) 3 rfl ?_
        obtain ⟨c5, E⟩ := gd_E E
        refine g_iald X (by decide +kernel) (ly hK px0 fl2_46 rfl) c5 ?_
        refine g_iload_n (n := 2) X (by decide +kernel) 2 rfl ?_
        obtain ⟨y7, e6, E⟩ := bp_E E
        refine g_callS1 (st := []) X [.int (h.1 (x0 + 7) x3.toNatClampNeg), .int x2] (by decide +kernel) ml2_88 (by decide) (Nat.le_of_ble_eq_true rfl) (c0_begins hK (h.1 (x0 + 7) x3.toNatClampNeg) x2 h  e6) ?_
        rcases it_E E with ⟨c8, E⟩ | ⟨c8, E⟩
        · refine g_if_eq_t (off := 5) (tgt := 37) X (by decide +kernel) (by decide) c8 ?_
          obtain ⟨x3_9, ex3_9, E⟩ := lt_E E
          refine s_iinc (i := 3) (n := 1) (y := x3_9) X (by decide +kernel) 3 rfl (by decide) ex3_9 (ls_next (by decide) (Or.inr rfl) (ls_next (by decide) (Or.inr rfl) (ls_next (by decide) (Or.inr rfl) (ls_here ls_end)))) ?_
          refine g_goto (off := -38) (tgt := 2) X (by decide +kernel) (by decide) ?_
          exact ih x3_9  E
        · refine g_if_eq_f (off := 5) (tgt := 37) X (by decide +kernel) (by decide) c8 ?_
          refine g_iconst (n := 1) (x := (1 : Int32)) X (by decide +kernel) (by decide) ?_
          obtain rfl := Option.some.inj E
          exact g_zreturn X (by decide +kernel) rfl
      · refine g_icmp_ne_t (off := 18) (tgt := 37) X (by decide +kernel) (by decide) c4 ?_
        obtain ⟨x3_10, ex3_10, E⟩ := lt_E E
        refine s_iinc (i := 3) (n := 1) (y := x3_10) X (by decide +kernel) 3 rfl (by decide) ex3_10 (ls_next (by decide) (Or.inr rfl) (ls_next (by decide) (Or.inr rfl) (ls_next (by decide) (Or.inr rfl) (ls_here ls_end)))) ?_
        refine g_goto (off := -38) (tgt := 2) X (by decide +kernel) (by decide) ?_
        exact ih x3_10  E
set_option maxHeartbeats 4000000 in
set_option maxRecDepth 20000 in
theorem c2_rowBefore {sp : Sp} {K : Ly} {sz n : Nat} (hK : LyOk K) (o : Nat) (a1 : Int32) (a2 : Int32) (h : Hp) (ho : K o = some (.inl 2)) {v : Int32} (E : f2_rowBefore K n o a1 a2 h = some v) : Con sp y2_rowBefore prog_7_method_17_code 4 (some (.boolean)) 2 0 0 [.ref o, .int a1, .int a2] sz K h (some (.int v)) sz K h := by
  refine Con.of (by decide) (Nat.le_of_ble_eq_true rfl) (fun Γ X _ => ?_)
  show Go Γ (0, 0) 0 [(0, .ref o), (1, .int a1), (2, .int a2)] [] sz K h
  unfold f2_rowBefore at E
  refine g_iconst (n := 0) (x := (0 : Int32)) X (by decide +kernel) (by decide) ?_
  refine s_istore_n (n := 3) (i := 3) X (by decide +kernel) rfl (by decide) rfl (ls_next (by decide) (Or.inr rfl) (ls_next (by decide) (Or.inr rfl) (ls_next (by decide) (Or.inr rfl) (ls_ins ls_end)))) ?_
  exact w2_rowBefore_L2 X hK o a1 a2 ho n (0 : Int32) E
-- Net.rowsAt
def f2_rowsAt_J61 (K : Ly) (n : Nat) (r4 : Int32 → Int32 → Option (Int32)) (r37 : Int32 → Int32 → Int32 → Option (Int32)) (x0 : Nat) (x1 : Int32) (x2 : Int32) (x3 : Int32) (x4 : Int32) (x5 : Int32) (h : Hp) : Option (Int32) :=
    lt (x4 / (27 : Int32)) fun x4_12 =>
    lt (x5 + (1 : Int32)) fun x5_13 =>
    r37 x2 x4_12 x5_13
def f2_rowsAt_L37 (K : Ly) (n : Nat) (x0 : Nat) (x1 : Int32) (x3 : Int32) (h : Hp) (r4 : Int32 → Int32 → Option (Int32)) : Nat → Int32 → Int32 → Int32 → Option (Int32)
  | 0, _, _, _ => none
  | k + 1, x2, x4, x5 =>
    if (4 : Int32) ≤ x5 then (
    lt (x3 + (1 : Int32)) fun x3_6 =>
    r4 x2 x3_6)
    else (
    if x4 ≤ 0 then (
    lt (x3 + (1 : Int32)) fun x3_8 =>
    r4 x2 x3_8)
    else (
    bp (f2_rowBefore K n x0 x3 x4 h) fun y10 =>
    f2_rowsAt_J61 K n (r4) (f2_rowsAt_L37 K n x0 x1 x3 h r4 k) x0 x1 (if y10 = 0 then (x2 + (1 : Int32)) else x2) x3 x4 x5 h))
def f2_rowsAt_J32 (K : Ly) (n : Nat) (r4 : Int32 → Int32 → Option (Int32)) (x0 : Nat) (x1 : Int32) (x2 : Int32) (x3 : Int32) (s0 : Int32) (h : Hp) : Option (Int32) :=
    f2_rowsAt_L37 K n x0 x1 x3 h (r4) n x2 s0 (0 : Int32)
def f2_rowsAt_L4 (K : Ly) (n : Nat) (x0 : Nat) (x1 : Int32) (h : Hp)  : Nat → Int32 → Int32 → Option (Int32)
  | 0, _, _ => none
  | k + 1, x2, x3 =>
    if (h.1 x0 3) ≤ x3 then (
    some x2)
    else (
    gd (inb x3 12) <|
    if (h.1 (x0 + 6) x3.toNatClampNeg) = x1 then (
    gd (inb x3 12) <|
    f2_rowsAt_J32 K n (f2_rowsAt_L4 K n x0 x1 h  k) x0 x1 x2 x3 (h.1 (x0 + 7) x3.toNatClampNeg) h)
    else (
    f2_rowsAt_J32 K n (f2_rowsAt_L4 K n x0 x1 h  k) x0 x1 x2 x3 (0 : Int32) h))
def f2_rowsAt (K : Ly) (n : Nat) (o : Nat) (a1 : Int32) (h : Hp) : Option (Int32) :=
    f2_rowsAt_L4 K n o a1 h n (0 : Int32) (0 : Int32)
set_option maxHeartbeats 4000000 in
set_option maxRecDepth 20000 in
theorem w2_rowsAt_J61 {Γ : CT} {sp : Sp} {K : Ly} {sz n : Nat} {v : Int32} {h : Hp}  {r4 : Int32 → Int32 → Option (Int32)} {r37 : Int32 → Int32 → Int32 → Option (Int32)}  (X : Ok Γ sp prog_7_method_16_code Rc2 6 (some (.int)) 3 (some (.int v)) sz K h) (hK : LyOk K) (x0 : Nat) (x1 : Int32) (x2 : Int32) (x3 : Int32) (x4 : Int32) (x5 : Int32)  (hr4 : ∀ (x2 : Int32) (x3 : Int32), r4 x2 x3 = some v → Go Γ (0, 0) 4 [(0, .ref x0), (1, .int x1), (2, .int x2), (3, .int x3)] [] sz K h) (hr37 : ∀ (x2 : Int32) (x4 : Int32) (x5 : Int32), r37 x2 x4 x5 = some v → Go Γ (0, 0) 37 [(0, .ref x0), (1, .int x1), (2, .int x2), (3, .int x3), (4, .int x4), (5, .int x5)] [] sz K h) (px0 : K x0 = some (.inl 2)) (E : f2_rowsAt_J61 K n r4 r37 x0 x1 x2 x3 x4 x5 h = some v) : Go Γ (0, 0) 61 [(0, .ref x0), (1, .int x1), (2, .int x2), (3, .int x3), (4, .int x4), (5, .int x5)] [] sz K h := by
  unfold f2_rowsAt_J61 at E
  refine g_iload (n := 4) X (by decide +kernel) 4 rfl ?_
  refine g_bipush (n := 27) (x := (27 : Int32)) X (by decide +kernel) (by decide) ?_
  refine g_idiv X (by decide +kernel) (by decide) ?_
  obtain ⟨x4_12, ex4_12, E⟩ := lt_E E
  refine s_istore (i := 4) X (by decide +kernel) (by decide) ex4_12 (ls_next (by decide) (Or.inr rfl) (ls_next (by decide) (Or.inr rfl) (ls_next (by decide) (Or.inr rfl) (ls_next (by decide) (Or.inr rfl) (ls_here (ls_next (by decide) (Or.inr rfl) ls_end)))))) ?_
  obtain ⟨x5_13, ex5_13, E⟩ := lt_E E
  refine s_iinc (i := 5) (n := 1) (y := x5_13) X (by decide +kernel) 5 rfl (by decide) ex5_13 (ls_next (by decide) (Or.inr rfl) (ls_next (by decide) (Or.inr rfl) (ls_next (by decide) (Or.inr rfl) (ls_next (by decide) (Or.inr rfl) (ls_next (by decide) (Or.inr rfl) (ls_here ls_end)))))) ?_
  refine g_goto (off := -34) (tgt := 37) X (by decide +kernel) (by decide) ?_
  exact hr37 x2 x4_12 x5_13  E
set_option maxHeartbeats 4000000 in
set_option maxRecDepth 20000 in
theorem w2_rowsAt_L37 {Γ : CT} {sp : Sp} {K : Ly} {sz n : Nat} {v : Int32} {h : Hp}  (X : Ok Γ sp prog_7_method_16_code Rc2 6 (some (.int)) 3 (some (.int v)) sz K h) (hK : LyOk K) (x0 : Nat) (x1 : Int32) (x3 : Int32)  {r4 : Int32 → Int32 → Option (Int32)} (px0 : K x0 = some (.inl 2)) (hr4 : ∀ (x2 : Int32) (x3 : Int32), r4 x2 x3 = some v → Go Γ (0, 0) 4 [(0, .ref x0), (1, .int x1), (2, .int x2), (3, .int x3)] [] sz K h) : ∀ (k : Nat) (x2 : Int32) (x4 : Int32) (x5 : Int32), f2_rowsAt_L37 K n x0 x1 x3 h r4 k x2 x4 x5 = some v → Go Γ (0, 0) 37 [(0, .ref x0), (1, .int x1), (2, .int x2), (3, .int x3), (4, .int x4), (5, .int x5)] [] sz K h := by
  intro k
  induction k with
  | zero => intro x2 x4 x5 E; cases E
  | succ k ih =>
    intro x2 x4 x5 E
    unfold f2_rowsAt_L37 at E
    refine g_iload (n := 5) X (by decide +kernel) 5 rfl ?_
    refine g_iconst (n := 4) (x := (4 : Int32)) X (by decide +kernel) (by decide) ?_
    rcases it_E E with ⟨c5, E⟩ | ⟨c5, E⟩
    · refine g_icmp_ge_t (off := 34) (tgt := 74) X (by decide +kernel) (by decide) c5 ?_
      obtain ⟨x3_6, ex3_6, E⟩ := lt_E E
      refine s_iinc (i := 3) (n := 1) (y := x3_6) X (by decide +kernel) 3 rfl (by decide) ex3_6 (ls_next (by decide) (Or.inr rfl) (ls_next (by decide) (Or.inr rfl) (ls_next (by decide) (Or.inr rfl) (ls_here (ls_next (by decide) (Or.inr rfl) (ls_next (by decide) (Or.inr rfl) ls_end)))))) ?_
      refine g_goto (off := -73) (tgt := 4) X (by decide +kernel) (by decide) ?_
      refine g_sub [0, 1, 2, 3] rfl ?_
      exact hr4 x2 x3_6  E
    · refine g_icmp_ge_f (off := 34) (tgt := 74) X (by decide +kernel) (by decide) c5 ?_
      refine g_iload (n := 4) X (by decide +kernel) 4 rfl ?_
      rcases it_E E with ⟨c7, E⟩ | ⟨c7, E⟩
      · refine g_if_le_t (off := 29) (tgt := 74) X (by decide +kernel) (by decide) c7 ?_
        obtain ⟨x3_8, ex3_8, E⟩ := lt_E E
        refine s_iinc (i := 3) (n := 1) (y := x3_8) X (by decide +kernel) 3 rfl (by decide) ex3_8 (ls_next (by decide) (Or.inr rfl) (ls_next (by decide) (Or.inr rfl) (ls_next (by decide) (Or.inr rfl) (ls_here (ls_next (by decide) (Or.inr rfl) (ls_next (by decide) (Or.inr rfl) ls_end)))))) ?_
        refine g_goto (off := -73) (tgt := 4) X (by decide +kernel) (by decide) ?_
        refine g_sub [0, 1, 2, 3] rfl ?_
        exact hr4 x2 x3_8  E
      · refine g_if_le_f (off := 29) (tgt := 74) X (by decide +kernel) (by decide) c7 ?_
        refine g_aload_n (n := 0) X (by decide +kernel) 0 rfl ?_
        refine g_iload_n (n := 3) X (by decide +kernel) 3 rfl ?_
        refine g_iload (n := 4) X (by decide +kernel) 4 rfl ?_
        obtain ⟨y10, e9, E⟩ := bp_E E
        refine g_callV1 (st := []) X [.int x3, .int x4] (by decide +kernel) ml2_84 px0 rfl rfl (by decide) (Nat.le_of_ble_eq_true rfl) (c2_rowBefore hK x0 x3 x4 h px0 e9) ?_
        have hJ : Go Γ (0, 0) 61 [(0, .ref x0), (1, .int x1), (2, .int (if y10 = 0 then (x2 + (1 : Int32)) else x2)), (3, .int x3), (4, .int x4), (5, .int x5)] [] sz K h := by
          exact w2_rowsAt_J61 X hK x0 x1 (if y10 = 0 then (x2 + (1 : Int32)) else x2) x3 x4 x5 hr4 ih px0 E
        clear E
        by_cases c11 : y10 = 0
        · rw [if_pos c11] at hJ
          refine g_if_ne_f (off := 6) (tgt := 61) X (by decide +kernel) (by decide) (fun z => z c11) ?_
          refine s_iinc (i := 2) (n := 1) (y := (x2 + (1 : Int32))) X (by decide +kernel) 2 rfl (by decide) rfl (ls_next (by decide) (Or.inr rfl) (ls_next (by decide) (Or.inr rfl) (ls_here (ls_next (by decide) (Or.inr rfl) (ls_next (by decide) (Or.inr rfl) (ls_next (by decide) (Or.inr rfl) ls_end)))))) ?_
          exact hJ
        · rw [if_neg c11] at hJ
          refine g_if_ne_t (off := 6) (tgt := 61) X (by decide +kernel) (by decide) c11 ?_
          exact hJ
set_option maxHeartbeats 4000000 in
set_option maxRecDepth 20000 in
theorem w2_rowsAt_J32 {Γ : CT} {sp : Sp} {K : Ly} {sz n : Nat} {v : Int32} {h : Hp}  {r4 : Int32 → Int32 → Option (Int32)}  (X : Ok Γ sp prog_7_method_16_code Rc2 6 (some (.int)) 3 (some (.int v)) sz K h) (hK : LyOk K) (x0 : Nat) (x1 : Int32) (x2 : Int32) (x3 : Int32) (s0 : Int32)  (hr4 : ∀ (x2 : Int32) (x3 : Int32), r4 x2 x3 = some v → Go Γ (0, 0) 4 [(0, .ref x0), (1, .int x1), (2, .int x2), (3, .int x3)] [] sz K h) (px0 : K x0 = some (.inl 2)) (E : f2_rowsAt_J32 K n r4 x0 x1 x2 x3 s0 h = some v) : Go Γ (0, 0) 32 [(0, .ref x0), (1, .int x1), (2, .int x2), (3, .int x3)] [.int s0] sz K h := by
  unfold f2_rowsAt_J32 at E
  refine s_istore (i := 4) X (by decide +kernel) (by decide) rfl (ls_next (by decide) (Or.inr rfl) (ls_next (by decide) (Or.inr rfl) (ls_next (by decide) (Or.inr rfl) (ls_next (by decide) (Or.inr rfl) (ls_ins ls_end))))) ?_
  refine g_iconst (n := 0) (x := (0 : Int32)) X (by decide +kernel) (by decide) ?_
  refine s_istore (i := 5) X (by decide +kernel) (by decide) rfl (ls_next (by decide) (Or.inr rfl) (ls_next (by decide) (Or.inr rfl) (ls_next (by decide) (Or.inr rfl) (ls_next (by decide) (Or.inr rfl) (ls_next (by decide) (Or.inr rfl) (ls_ins ls_end)))))) ?_
  exact w2_rowsAt_L37 X hK x0 x1 x3 px0 hr4 n x2 s0 (0 : Int32) E
set_option maxHeartbeats 4000000 in
set_option maxRecDepth 20000 in
theorem w2_rowsAt_L4 {Γ : CT} {sp : Sp} {K : Ly} {sz n : Nat} {v : Int32} {h : Hp}  (X : Ok Γ sp prog_7_method_16_code Rc2 6 (some (.int)) 3 (some (.int v)) sz K h) (hK : LyOk K) (x0 : Nat) (x1 : Int32)  (px0 : K x0 = some (.inl 2))  : ∀ (k : Nat) (x2 : Int32) (x3 : Int32), f2_rowsAt_L4 K n x0 x1 h  k x2 x3 = some v → Go Γ (0, 0) 4 [(0, .ref x0), (1, .int x1), (2, .int x2), (3, .int x3)] [] sz K h := by
  intro k
  induction k with
  | zero => intro x2 x3 E; cases E
  | succ k ih =>
    intro x2 x3 E
    unfold f2_rowsAt_L4 at E
    refine g_iload_n (n := 3) X (by decide +kernel) 3 rfl ?_
    refine g_aload_n (n := 0) X (by decide +kernel) 0 rfl ?_
    refine g_getI X (by decide +kernel) fl2_21 px0 ?_
    rcases it_E E with ⟨c1, E⟩ | ⟨c1, E⟩
    · refine g_icmp_ge_t (off := 71) (tgt := 80) X (by decide +kernel) (by decide) c1 ?_
      refine g_iload_n (n := 2) X (by decide +kernel) 2 rfl ?_
      obtain rfl := Option.some.inj E
      exact g_ireturn X (by decide +kernel)
    · refine g_icmp_ge_f (off := 71) (tgt := 80) X (by decide +kernel) (by decide) c1 ?_
      refine g_aload_n (n := 0) X (by decide +kernel) 0 rfl ?_
      refine g_getS X (by decide +kernel) fl2_43 px0 ?_
      refine g_iload_n (n := 3) X (by decide +kernel) 3 rfl ?_
      obtain ⟨c2, E⟩ := gd_E E
      refine g_iald X (by decide +kernel) (ly hK px0 fl2_43 rfl) c2 ?_
      refine g_iload_n (n := 1) X (by decide +kernel) 1 rfl ?_
      rcases it_E E with ⟨c3, E⟩ | ⟨c3, E⟩
      · refine g_icmp_ne_f (off := 12) (tgt := 31) X (by decide +kernel) (by decide) (fun z => z c3) ?_
        refine g_aload_n (n := 0) X (by decide +kernel) 0 rfl ?_
        refine g_getS X (by decide +kernel) fl2_46 px0 ?_
        refine g_iload_n (n := 3) X (by decide +kernel) 3 rfl ?_
        obtain ⟨c4, E⟩ := gd_E E
        refine g_iald X (by decide +kernel) (ly hK px0 fl2_46 rfl) c4 ?_
        refine g_goto (off := 4) (tgt := 32) X (by decide +kernel) (by decide) ?_
        exact w2_rowsAt_J32 X hK x0 x1 x2 x3 (h.1 (x0 + 7) x3.toNatClampNeg) ih px0 E
      · refine g_icmp_ne_t (off := 12) (tgt := 31) X (by decide +kernel) (by decide) c3 ?_
        refine g_iconst (n := 0) (x := (0 : Int32)) X (by decide +kernel) (by decide) ?_
        exact w2_rowsAt_J32 X hK x0 x1 x2 x3 (0 : Int32) ih px0 E
set_option maxHeartbeats 4000000 in
set_option maxRecDepth 20000 in
theorem c2_rowsAt {sp : Sp} {K : Ly} {sz n : Nat} (hK : LyOk K) (o : Nat) (a1 : Int32) (h : Hp) (ho : K o = some (.inl 2)) {v : Int32} (E : f2_rowsAt K n o a1 h = some v) : Con sp y2_rowsAt prog_7_method_16_code 6 (some (.int)) 3 0 0 [.ref o, .int a1] sz K h (some (.int v)) sz K h := by
  refine Con.of (by decide) (Nat.le_of_ble_eq_true rfl) (fun Γ X _ => ?_)
  show Go Γ (0, 0) 0 [(0, .ref o), (1, .int a1)] [] sz K h
  unfold f2_rowsAt at E
  refine g_iconst (n := 0) (x := (0 : Int32)) X (by decide +kernel) (by decide) ?_
  refine s_istore_n (n := 2) (i := 2) X (by decide +kernel) rfl (by decide) rfl (ls_next (by decide) (Or.inr rfl) (ls_next (by decide) (Or.inr rfl) (ls_ins ls_end))) ?_
  refine g_iconst (n := 0) (x := (0 : Int32)) X (by decide +kernel) (by decide) ?_
  refine s_istore_n (n := 3) (i := 3) X (by decide +kernel) rfl (by decide) rfl (ls_next (by decide) (Or.inr rfl) (ls_next (by decide) (Or.inr rfl) (ls_next (by decide) (Or.inr rfl) (ls_ins ls_end)))) ?_
  exact w2_rowsAt_L4 X hK o a1 ho n (0 : Int32) (0 : Int32) E
-- Net.routesAt
def f2_routesAt_L4 (K : Ly) (n : Nat) (x0 : Nat) (x1 : Int32) (h : Hp)  : Nat → Int32 → Int32 → Option (Int32)
  | 0, _, _ => none
  | k + 1, x2, x3 =>
    if (h.1 x0 3) ≤ x3 then (
    some x2)
    else (
    gd (inb x3 12) <|
    lt (x3 + (1 : Int32)) fun x3_4 =>
    f2_routesAt_L4 K n x0 x1 h  k (if (h.1 (x0 + 6) x3.toNatClampNeg) = x1 then (x2 + (1 : Int32)) else x2) x3_4)
def f2_routesAt (K : Ly) (n : Nat) (o : Nat) (a1 : Int32) (h : Hp) : Option (Int32) :=
    f2_routesAt_L4 K n o a1 h n (0 : Int32) (0 : Int32)
set_option maxHeartbeats 4000000 in
set_option maxRecDepth 20000 in
theorem w2_routesAt_L4 {Γ : CT} {sp : Sp} {K : Ly} {sz n : Nat} {v : Int32} {h : Hp}  (X : Ok Γ sp prog_7_method_15_code Rc2 4 (some (.int)) 1 (some (.int v)) sz K h) (hK : LyOk K) (x0 : Nat) (x1 : Int32)  (px0 : K x0 = some (.inl 2))  : ∀ (k : Nat) (x2 : Int32) (x3 : Int32), f2_routesAt_L4 K n x0 x1 h  k x2 x3 = some v → Go Γ (0, 0) 4 [(0, .ref x0), (1, .int x1), (2, .int x2), (3, .int x3)] [] sz K h := by
  intro k
  induction k with
  | zero => intro x2 x3 E; cases E
  | succ k ih =>
    intro x2 x3 E
    unfold f2_routesAt_L4 at E
    refine g_iload_n (n := 3) X (by decide +kernel) 3 rfl ?_
    refine g_aload_n (n := 0) X (by decide +kernel) 0 rfl ?_
    refine g_getI X (by decide +kernel) fl2_21 px0 ?_
    rcases it_E E with ⟨c1, E⟩ | ⟨c1, E⟩
    · refine g_icmp_ge_t (off := 22) (tgt := 31) X (by decide +kernel) (by decide) c1 ?_
      refine g_iload_n (n := 2) X (by decide +kernel) 2 rfl ?_
      obtain rfl := Option.some.inj E
      exact g_ireturn X (by decide +kernel)
    · refine g_icmp_ge_f (off := 22) (tgt := 31) X (by decide +kernel) (by decide) c1 ?_
      refine g_aload_n (n := 0) X (by decide +kernel) 0 rfl ?_
      refine g_getS X (by decide +kernel) fl2_43 px0 ?_
      refine g_iload_n (n := 3) X (by decide +kernel) 3 rfl ?_
      obtain ⟨c2, E⟩ := gd_E E
      refine g_iald X (by decide +kernel) (ly hK px0 fl2_43 rfl) c2 ?_
      refine g_iload_n (n := 1) X (by decide +kernel) 1 rfl ?_
      have hJ : Go Γ (0, 0) 25 [(0, .ref x0), (1, .int x1), (2, .int (if (h.1 (x0 + 6) x3.toNatClampNeg) = x1 then (x2 + (1 : Int32)) else x2)), (3, .int x3)] [] sz K h := by
        obtain ⟨x3_4, ex3_4, E⟩ := lt_E E
        refine s_iinc (i := 3) (n := 1) (y := x3_4) X (by decide +kernel) 3 rfl (by decide) ex3_4 (ls_next (by decide) (Or.inr rfl) (ls_next (by decide) (Or.inr rfl) (ls_next (by decide) (Or.inr rfl) (ls_here ls_end)))) ?_
        refine g_goto (off := -24) (tgt := 4) X (by decide +kernel) (by decide) ?_
        exact ih (if (h.1 (x0 + 6) x3.toNatClampNeg) = x1 then (x2 + (1 : Int32)) else x2) x3_4  E
      clear E
      by_cases c3 : (h.1 (x0 + 6) x3.toNatClampNeg) = x1
      · rw [if_pos c3] at hJ
        refine g_icmp_ne_f (off := 6) (tgt := 25) X (by decide +kernel) (by decide) (fun z => z c3) ?_
        refine s_iinc (i := 2) (n := 1) (y := (x2 + (1 : Int32))) X (by decide +kernel) 2 rfl (by decide) rfl (ls_next (by decide) (Or.inr rfl) (ls_next (by decide) (Or.inr rfl) (ls_here (ls_next (by decide) (Or.inr rfl) ls_end)))) ?_
        exact hJ
      · rw [if_neg c3] at hJ
        refine g_icmp_ne_t (off := 6) (tgt := 25) X (by decide +kernel) (by decide) c3 ?_
        exact hJ
set_option maxHeartbeats 4000000 in
set_option maxRecDepth 20000 in
theorem c2_routesAt {sp : Sp} {K : Ly} {sz n : Nat} (hK : LyOk K) (o : Nat) (a1 : Int32) (h : Hp) (ho : K o = some (.inl 2)) {v : Int32} (E : f2_routesAt K n o a1 h = some v) : Con sp y2_routesAt prog_7_method_15_code 4 (some (.int)) 1 0 0 [.ref o, .int a1] sz K h (some (.int v)) sz K h := by
  refine Con.of (by decide) (Nat.le_of_ble_eq_true rfl) (fun Γ X _ => ?_)
  show Go Γ (0, 0) 0 [(0, .ref o), (1, .int a1)] [] sz K h
  unfold f2_routesAt at E
  refine g_iconst (n := 0) (x := (0 : Int32)) X (by decide +kernel) (by decide) ?_
  refine s_istore_n (n := 2) (i := 2) X (by decide +kernel) rfl (by decide) rfl (ls_next (by decide) (Or.inr rfl) (ls_next (by decide) (Or.inr rfl) (ls_ins ls_end))) ?_
  refine g_iconst (n := 0) (x := (0 : Int32)) X (by decide +kernel) (by decide) ?_
  refine s_istore_n (n := 3) (i := 3) X (by decide +kernel) rfl (by decide) rfl (ls_next (by decide) (Or.inr rfl) (ls_next (by decide) (Or.inr rfl) (ls_next (by decide) (Or.inr rfl) (ls_ins ls_end)))) ?_
  exact w2_routesAt_L4 X hK o a1 ho n (0 : Int32) (0 : Int32) E
-- AskedNames.lettersOf
def f0_lettersOf_L6 (K : Ly) (n : Nat)  (h : Hp)  : Nat → Int32 → Int32 → Int32 → Option (Int32)
  | 0, _, _, _ => none
  | k + 1, x1, x2, x3 =>
    if (4 : Int32) ≤ x3 then (
    some x1)
    else (
    if x2 ≤ 0 then (
    some x1)
    else (
    lt (x1 + (1 : Int32)) fun x1_3 =>
    lt (x2 / (27 : Int32)) fun x2_4 =>
    lt (x3 + (1 : Int32)) fun x3_5 =>
    f0_lettersOf_L6 K n h  k x1_3 x2_4 x3_5))
def f0_lettersOf (K : Ly) (n : Nat) (a0 : Int32) (h : Hp) : Option (Int32) :=
    f0_lettersOf_L6 K n h n (0 : Int32) a0 (0 : Int32)
set_option maxHeartbeats 4000000 in
set_option maxRecDepth 20000 in
theorem w0_lettersOf_L6 {Γ : CT} {sp : Sp} {K : Ly} {sz n : Nat} {v : Int32} {h : Hp}  (X : Ok Γ sp prog_1_method_36_code Rc0 4 (some (.int)) 1 (some (.int v)) sz K h) (hK : LyOk K)     : ∀ (k : Nat) (x1 : Int32) (x2 : Int32) (x3 : Int32), f0_lettersOf_L6 K n h  k x1 x2 x3 = some v → Go Γ (0, 0) 6 [(1, .int x1), (2, .int x2), (3, .int x3)] [] sz K h := by
  intro k
  induction k with
  | zero => intro x1 x2 x3 E; cases E
  | succ k ih =>
    intro x1 x2 x3 E
    unfold f0_lettersOf_L6 at E
    refine g_iload_n (n := 3) X (by decide +kernel) 2 rfl ?_
    refine g_iconst (n := 4) (x := (4 : Int32)) X (by decide +kernel) (by decide) ?_
    rcases it_E E with ⟨c1, E⟩ | ⟨c1, E⟩
    · refine g_icmp_ge_t (off := 21) (tgt := 29) X (by decide +kernel) (by decide) c1 ?_
      refine g_iload_n (n := 1) X (by decide +kernel) 0 rfl ?_
      obtain rfl := Option.some.inj E
      exact g_ireturn X (by decide +kernel)
    · refine g_icmp_ge_f (off := 21) (tgt := 29) X (by decide +kernel) (by decide) c1 ?_
      refine g_iload_n (n := 2) X (by decide +kernel) 1 rfl ?_
      rcases it_E E with ⟨c2, E⟩ | ⟨c2, E⟩
      · refine g_if_le_t (off := 17) (tgt := 29) X (by decide +kernel) (by decide) c2 ?_
        refine g_iload_n (n := 1) X (by decide +kernel) 0 rfl ?_
        obtain rfl := Option.some.inj E
        exact g_ireturn X (by decide +kernel)
      · refine g_if_le_f (off := 17) (tgt := 29) X (by decide +kernel) (by decide) c2 ?_
        obtain ⟨x1_3, ex1_3, E⟩ := lt_E E
        refine s_iinc (i := 1) (n := 1) (y := x1_3) X (by decide +kernel) 0 rfl (by decide) ex1_3 (ls_here (ls_next (by decide) (Or.inr rfl) (ls_next (by decide) (Or.inr rfl) ls_end))) ?_
        refine g_iload_n (n := 2) X (by decide +kernel) 1 rfl ?_
        refine g_bipush (n := 27) (x := (27 : Int32)) X (by decide +kernel) (by decide) ?_
        refine g_idiv X (by decide +kernel) (by decide) ?_
        obtain ⟨x2_4, ex2_4, E⟩ := lt_E E
        refine s_istore_n (n := 2) (i := 2) X (by decide +kernel) rfl (by decide) ex2_4 (ls_next (by decide) (Or.inr rfl) (ls_here (ls_next (by decide) (Or.inr rfl) ls_end))) ?_
        obtain ⟨x3_5, ex3_5, E⟩ := lt_E E
        refine s_iinc (i := 3) (n := 1) (y := x3_5) X (by decide +kernel) 2 rfl (by decide) ex3_5 (ls_next (by decide) (Or.inr rfl) (ls_next (by decide) (Or.inr rfl) (ls_here ls_end))) ?_
        refine g_goto (off := -20) (tgt := 6) X (by decide +kernel) (by decide) ?_
        exact ih x1_3 x2_4 x3_5  E
set_option maxHeartbeats 4000000 in
set_option maxRecDepth 20000 in
theorem c0_lettersOf {sp : Sp} {K : Ly} {sz n : Nat} (hK : LyOk K) (a0 : Int32) (h : Hp)  {v : Int32} (E : f0_lettersOf K n a0 h = some v) : Con sp y0_lettersOf prog_1_method_36_code 4 (some (.int)) 1 0 0 [.int a0] sz K h (some (.int v)) sz K h := by
  refine Con.of (by decide) (Nat.le_of_ble_eq_true rfl) (fun Γ X _ => ?_)
  show Go Γ (0, 0) 0 [(0, .int a0)] [] sz K h
  unfold f0_lettersOf at E
  refine g_iconst (n := 0) (x := (0 : Int32)) X (by decide +kernel) (by decide) ?_
  refine s_istore_n (n := 1) (i := 1) X (by decide +kernel) rfl (by decide) rfl (ls_next (by decide) (Or.inr rfl) (ls_ins ls_end)) ?_
  refine g_iload_n (n := 0) X (by decide +kernel) 0 rfl ?_
  refine s_istore_n (n := 2) (i := 2) X (by decide +kernel) rfl (by decide) rfl (ls_next (by decide) (Or.inr rfl) (ls_next (by decide) (Or.inr rfl) (ls_ins ls_end))) ?_
  refine g_iconst (n := 0) (x := (0 : Int32)) X (by decide +kernel) (by decide) ?_
  refine s_istore_n (n := 3) (i := 3) X (by decide +kernel) rfl (by decide) rfl (ls_next (by decide) (Or.inr rfl) (ls_next (by decide) (Or.inr rfl) (ls_next (by decide) (Or.inr rfl) (ls_ins ls_end)))) ?_
  refine g_sub [1, 2, 3] rfl ?_
  exact w0_lettersOf_L6 X hK  n (0 : Int32) a0 (0 : Int32) E
-- Net.waysFor
def f2_waysFor_J41 (K : Ly) (n : Nat) (r5 : Int32 → Int32 → Option (Int32)) (x0 : Nat) (x1 : Int32) (x2 : Int32) (x3 : Int32) (x4 : Int32) (s0 : Int32) (h : Hp) : Option (Int32) :=
    if s0 = 0 then (
    lt (x4 + (1 : Int32)) fun x4_7 =>
    r5 x3 x4_7)
    else (
    gd (inb x4 12) <|
    bp (f2_linkBetween K n x0 x1 (h.1 (x0 + 8) x4.toNatClampNeg) h) fun y10 =>
    if y10 = (-1 : Int32) then (
    lt (x4 + (1 : Int32)) fun x4_12 =>
    r5 x3 x4_12)
    else (
    gd (inb x4 12) <|
    lt (x3 ||| ((1 : Int32) <<< ((h.1 (x0 + 8) x4.toNatClampNeg) &&& 31))) fun x3_14 =>
    lt (x4 + (1 : Int32)) fun x4_15 =>
    r5 x3_14 x4_15))
def f2_waysFor_J40 (K : Ly) (n : Nat) (r5 : Int32 → Int32 → Option (Int32)) (x0 : Nat) (x1 : Int32) (x2 : Int32) (x3 : Int32) (x4 : Int32) (h : Hp) : Option (Int32) :=
    f2_waysFor_J41 K n (r5) x0 x1 x2 x3 x4 (0 : Int32) h
def f2_waysFor_L5 (K : Ly) (n : Nat) (x0 : Nat) (x1 : Int32) (x2 : Int32) (h : Hp)  : Nat → Int32 → Int32 → Option (Int32)
  | 0, _, _ => none
  | k + 1, x3, x4 =>
    if (h.1 x0 3) ≤ x4 then (
    some x3)
    else (
    gd (inb x4 12) <|
    if (h.1 (x0 + 6) x4.toNatClampNeg) = x1 then (
    gd (inb x4 12) <|
    f2_waysFor_J41 K n (f2_waysFor_L5 K n x0 x1 x2 h  k) x0 x1 x2 x3 x4 (if (h.1 (x0 + 7) x4.toNatClampNeg) = x2 then (1 : Int32) else (0 : Int32)) h)
    else (
    f2_waysFor_J40 K n (f2_waysFor_L5 K n x0 x1 x2 h  k) x0 x1 x2 x3 x4 h))
def f2_waysFor (K : Ly) (n : Nat) (o : Nat) (a1 : Int32) (a2 : Int32) (h : Hp) : Option (Int32) :=
    f2_waysFor_L5 K n o a1 a2 h n (0 : Int32) (0 : Int32)
set_option maxHeartbeats 4000000 in
set_option maxRecDepth 20000 in
theorem w2_waysFor_J41 {Γ : CT} {sp : Sp} {K : Ly} {sz n : Nat} {v : Int32} {h : Hp}  {r5 : Int32 → Int32 → Option (Int32)}  (X : Ok Γ sp prog_7_method_13_code Rc2 6 (some (.int)) 3 (some (.int v)) sz K h) (hK : LyOk K) (x0 : Nat) (x1 : Int32) (x2 : Int32) (x3 : Int32) (x4 : Int32) (s0 : Int32)  (hr5 : ∀ (x3 : Int32) (x4 : Int32), r5 x3 x4 = some v → Go Γ (0, 0) 5 [(0, .ref x0), (1, .int x1), (2, .int x2), (3, .int x3), (4, .int x4)] [] sz K h) (px0 : K x0 = some (.inl 2)) (E : f2_waysFor_J41 K n r5 x0 x1 x2 x3 x4 s0 h = some v) : Go Γ (0, 0) 41 [(0, .ref x0), (1, .int x1), (2, .int x2), (3, .int x3), (4, .int x4)] [.int s0] sz K h := by
  unfold f2_waysFor_J41 at E
  refine s_istore (i := 5) X (by decide +kernel) (by decide) rfl (ls_next (by decide) (Or.inr rfl) (ls_next (by decide) (Or.inr rfl) (ls_next (by decide) (Or.inr rfl) (ls_next (by decide) (Or.inr rfl) (ls_next (by decide) (Or.inr rfl) (ls_ins ls_end)))))) ?_
  refine g_iload (n := 5) X (by decide +kernel) 5 rfl ?_
  rcases it_E E with ⟨c6, E⟩ | ⟨c6, E⟩
  · refine g_if_eq_t (off := 31) (tgt := 76) X (by decide +kernel) (by decide) c6 ?_
    obtain ⟨x4_7, ex4_7, E⟩ := lt_E E
    refine s_iinc (i := 4) (n := 1) (y := x4_7) X (by decide +kernel) 4 rfl (by decide) ex4_7 (ls_next (by decide) (Or.inr rfl) (ls_next (by decide) (Or.inr rfl) (ls_next (by decide) (Or.inr rfl) (ls_next (by decide) (Or.inr rfl) (ls_here (ls_next (by decide) (Or.inr rfl) ls_end)))))) ?_
    refine g_goto (off := -74) (tgt := 5) X (by decide +kernel) (by decide) ?_
    refine g_sub [0, 1, 2, 3, 4] rfl ?_
    exact hr5 x3 x4_7  E
  · refine g_if_eq_f (off := 31) (tgt := 76) X (by decide +kernel) (by decide) c6 ?_
    refine g_aload_n (n := 0) X (by decide +kernel) 0 rfl ?_
    refine g_iload_n (n := 1) X (by decide +kernel) 1 rfl ?_
    refine g_aload_n (n := 0) X (by decide +kernel) 0 rfl ?_
    refine g_getS X (by decide +kernel) fl2_49 px0 ?_
    refine g_iload (n := 4) X (by decide +kernel) 4 rfl ?_
    obtain ⟨c8, E⟩ := gd_E E
    refine g_iald X (by decide +kernel) (ly hK px0 fl2_49 rfl) c8 ?_
    obtain ⟨y10, e9, E⟩ := bp_E E
    refine g_callV1 (st := []) X [.int x1, .int (h.1 (x0 + 8) x4.toNatClampNeg)] (by decide +kernel) ml2_80 px0 rfl rfl (by decide) (Nat.le_of_ble_eq_true rfl) (c2_linkBetween hK x0 x1 (h.1 (x0 + 8) x4.toNatClampNeg) h px0 e9) ?_
    refine g_iconst (n := -1) (x := (-1 : Int32)) X (by decide +kernel) (by decide) ?_
    rcases it_E E with ⟨c11, E⟩ | ⟨c11, E⟩
    · refine g_icmp_eq_t (off := 15) (tgt := 76) X (by decide +kernel) (by decide) c11 ?_
      obtain ⟨x4_12, ex4_12, E⟩ := lt_E E
      refine s_iinc (i := 4) (n := 1) (y := x4_12) X (by decide +kernel) 4 rfl (by decide) ex4_12 (ls_next (by decide) (Or.inr rfl) (ls_next (by decide) (Or.inr rfl) (ls_next (by decide) (Or.inr rfl) (ls_next (by decide) (Or.inr rfl) (ls_here (ls_next (by decide) (Or.inr rfl) ls_end)))))) ?_
      refine g_goto (off := -74) (tgt := 5) X (by decide +kernel) (by decide) ?_
      refine g_sub [0, 1, 2, 3, 4] rfl ?_
      exact hr5 x3 x4_12  E
    · refine g_icmp_eq_f (off := 15) (tgt := 76) X (by decide +kernel) (by decide) c11 ?_
      refine g_iload_n (n := 3) X (by decide +kernel) 3 rfl ?_
      refine g_iconst (n := 1) (x := (1 : Int32)) X (by decide +kernel) (by decide) ?_
      refine g_aload_n (n := 0) X (by decide +kernel) 0 rfl ?_
      refine g_getS X (by decide +kernel) fl2_49 px0 ?_
      refine g_iload (n := 4) X (by decide +kernel) 4 rfl ?_
      obtain ⟨c13, E⟩ := gd_E E
      refine g_iald X (by decide +kernel) (ly hK px0 fl2_49 rfl) c13 ?_
      refine g_ishl X (by decide +kernel) ?_
      refine g_ior X (by decide +kernel) ?_
      obtain ⟨x3_14, ex3_14, E⟩ := lt_E E
      refine s_istore_n (n := 3) (i := 3) X (by decide +kernel) rfl (by decide) ex3_14 (ls_next (by decide) (Or.inr rfl) (ls_next (by decide) (Or.inr rfl) (ls_next (by decide) (Or.inr rfl) (ls_here (ls_next (by decide) (Or.inr rfl) (ls_next (by decide) (Or.inr rfl) ls_end)))))) ?_
      obtain ⟨x4_15, ex4_15, E⟩ := lt_E E
      refine s_iinc (i := 4) (n := 1) (y := x4_15) X (by decide +kernel) 4 rfl (by decide) ex4_15 (ls_next (by decide) (Or.inr rfl) (ls_next (by decide) (Or.inr rfl) (ls_next (by decide) (Or.inr rfl) (ls_next (by decide) (Or.inr rfl) (ls_here (ls_next (by decide) (Or.inr rfl) ls_end)))))) ?_
      refine g_goto (off := -74) (tgt := 5) X (by decide +kernel) (by decide) ?_
      refine g_sub [0, 1, 2, 3, 4] rfl ?_
      exact hr5 x3_14 x4_15  E
set_option maxHeartbeats 4000000 in
set_option maxRecDepth 20000 in
theorem w2_waysFor_J40 {Γ : CT} {sp : Sp} {K : Ly} {sz n : Nat} {v : Int32} {h : Hp}  {r5 : Int32 → Int32 → Option (Int32)}  (X : Ok Γ sp prog_7_method_13_code Rc2 6 (some (.int)) 3 (some (.int v)) sz K h) (hK : LyOk K) (x0 : Nat) (x1 : Int32) (x2 : Int32) (x3 : Int32) (x4 : Int32)  (hr5 : ∀ (x3 : Int32) (x4 : Int32), r5 x3 x4 = some v → Go Γ (0, 0) 5 [(0, .ref x0), (1, .int x1), (2, .int x2), (3, .int x3), (4, .int x4)] [] sz K h) (px0 : K x0 = some (.inl 2)) (E : f2_waysFor_J40 K n r5 x0 x1 x2 x3 x4 h = some v) : Go Γ (0, 0) 40 [(0, .ref x0), (1, .int x1), (2, .int x2), (3, .int x3), (4, .int x4)] [] sz K h := by
  unfold f2_waysFor_J40 at E
  refine g_iconst (n := 0) (x := (0 : Int32)) X (by decide +kernel) (by decide) ?_
  exact w2_waysFor_J41 X hK x0 x1 x2 x3 x4 (0 : Int32) hr5 px0 E
set_option maxHeartbeats 4000000 in
set_option maxRecDepth 20000 in
theorem w2_waysFor_L5 {Γ : CT} {sp : Sp} {K : Ly} {sz n : Nat} {v : Int32} {h : Hp}  (X : Ok Γ sp prog_7_method_13_code Rc2 6 (some (.int)) 3 (some (.int v)) sz K h) (hK : LyOk K) (x0 : Nat) (x1 : Int32) (x2 : Int32)  (px0 : K x0 = some (.inl 2))  : ∀ (k : Nat) (x3 : Int32) (x4 : Int32), f2_waysFor_L5 K n x0 x1 x2 h  k x3 x4 = some v → Go Γ (0, 0) 5 [(0, .ref x0), (1, .int x1), (2, .int x2), (3, .int x3), (4, .int x4)] [] sz K h := by
  intro k
  induction k with
  | zero => intro x3 x4 E; cases E
  | succ k ih =>
    intro x3 x4 E
    unfold f2_waysFor_L5 at E
    refine g_iload (n := 4) X (by decide +kernel) 4 rfl ?_
    refine g_aload_n (n := 0) X (by decide +kernel) 0 rfl ?_
    refine g_getI X (by decide +kernel) fl2_21 px0 ?_
    rcases it_E E with ⟨c1, E⟩ | ⟨c1, E⟩
    · refine g_icmp_ge_t (off := 71) (tgt := 82) X (by decide +kernel) (by decide) c1 ?_
      refine g_iload_n (n := 3) X (by decide +kernel) 3 rfl ?_
      obtain rfl := Option.some.inj E
      exact g_ireturn X (by decide +kernel)
    · refine g_icmp_ge_f (off := 71) (tgt := 82) X (by decide +kernel) (by decide) c1 ?_
      refine g_aload_n (n := 0) X (by decide +kernel) 0 rfl ?_
      refine g_getS X (by decide +kernel) fl2_43 px0 ?_
      refine g_iload (n := 4) X (by decide +kernel) 4 rfl ?_
      obtain ⟨c2, E⟩ := gd_E E
      refine g_iald X (by decide +kernel) (ly hK px0 fl2_43 rfl) c2 ?_
      refine g_iload_n (n := 1) X (by decide +kernel) 1 rfl ?_
      rcases it_E E with ⟨c3, E⟩ | ⟨c3, E⟩
      · refine g_icmp_ne_f (off := 18) (tgt := 40) X (by decide +kernel) (by decide) (fun z => z c3) ?_
        refine g_aload_n (n := 0) X (by decide +kernel) 0 rfl ?_
        refine g_getS X (by decide +kernel) fl2_46 px0 ?_
        refine g_iload (n := 4) X (by decide +kernel) 4 rfl ?_
        obtain ⟨c4, E⟩ := gd_E E
        refine g_iald X (by decide +kernel) (ly hK px0 fl2_46 rfl) c4 ?_
        refine g_iload_n (n := 2) X (by decide +kernel) 2 rfl ?_
        have hJ : Go Γ (0, 0) 41 [(0, .ref x0), (1, .int x1), (2, .int x2), (3, .int x3), (4, .int x4)] [.int (if (h.1 (x0 + 7) x4.toNatClampNeg) = x2 then (1 : Int32) else (0 : Int32))] sz K h := by
          exact w2_waysFor_J41 X hK x0 x1 x2 x3 x4 (if (h.1 (x0 + 7) x4.toNatClampNeg) = x2 then (1 : Int32) else (0 : Int32)) ih px0 E
        clear E
        by_cases c5 : (h.1 (x0 + 7) x4.toNatClampNeg) = x2
        · rw [if_pos c5] at hJ
          refine g_icmp_ne_f (off := 7) (tgt := 40) X (by decide +kernel) (by decide) (fun z => z c5) ?_
          refine g_iconst (n := 1) (x := (1 : Int32)) X (by decide +kernel) (by decide) ?_
          refine g_goto (off := 4) (tgt := 41) X (by decide +kernel) (by decide) ?_
          exact hJ
        · rw [if_neg c5] at hJ
          refine g_icmp_ne_t (off := 7) (tgt := 40) X (by decide +kernel) (by decide) c5 ?_
          refine g_iconst (n := 0) (x := (0 : Int32)) X (by decide +kernel) (by decide) ?_
          exact hJ
      · refine g_icmp_ne_t (off := 18) (tgt := 40) X (by decide +kernel) (by decide) c3 ?_
        exact w2_waysFor_J40 X hK x0 x1 x2 x3 x4 ih px0 E
set_option maxHeartbeats 4000000 in
set_option maxRecDepth 20000 in
theorem c2_waysFor {sp : Sp} {K : Ly} {sz n : Nat} (hK : LyOk K) (o : Nat) (a1 : Int32) (a2 : Int32) (h : Hp) (ho : K o = some (.inl 2)) {v : Int32} (E : f2_waysFor K n o a1 a2 h = some v) : Con sp y2_waysFor prog_7_method_13_code 6 (some (.int)) 3 0 0 [.ref o, .int a1, .int a2] sz K h (some (.int v)) sz K h := by
  refine Con.of (by decide) (Nat.le_of_ble_eq_true rfl) (fun Γ X _ => ?_)
  show Go Γ (0, 0) 0 [(0, .ref o), (1, .int a1), (2, .int a2)] [] sz K h
  unfold f2_waysFor at E
  refine g_iconst (n := 0) (x := (0 : Int32)) X (by decide +kernel) (by decide) ?_
  refine s_istore_n (n := 3) (i := 3) X (by decide +kernel) rfl (by decide) rfl (ls_next (by decide) (Or.inr rfl) (ls_next (by decide) (Or.inr rfl) (ls_next (by decide) (Or.inr rfl) (ls_ins ls_end)))) ?_
  refine g_iconst (n := 0) (x := (0 : Int32)) X (by decide +kernel) (by decide) ?_
  refine s_istore (i := 4) X (by decide +kernel) (by decide) rfl (ls_next (by decide) (Or.inr rfl) (ls_next (by decide) (Or.inr rfl) (ls_next (by decide) (Or.inr rfl) (ls_next (by decide) (Or.inr rfl) (ls_ins ls_end))))) ?_
  exact w2_waysFor_L5 X hK o a1 a2 ho n (0 : Int32) (0 : Int32) E
-- Net.serversAsBits
def f2_serversAsBits_L4 (K : Ly) (n : Nat) (x0 : Nat) (h : Hp)  : Nat → Int32 → Int32 → Option (Int32)
  | 0, _, _ => none
  | k + 1, x1, x2 =>
    if (h.1 x0 4) ≤ x2 then (
    some x1)
    else (
    gd (inb x2 6) <|
    lt (x1 ||| ((1 : Int32) <<< ((h.1 (x0 + 10) x2.toNatClampNeg) &&& 31))) fun x1_3 =>
    lt (x2 + (1 : Int32)) fun x2_4 =>
    f2_serversAsBits_L4 K n x0 h  k x1_3 x2_4)
def f2_serversAsBits (K : Ly) (n : Nat) (o : Nat) (h : Hp) : Option (Int32) :=
    f2_serversAsBits_L4 K n o h n (0 : Int32) (0 : Int32)
set_option maxHeartbeats 4000000 in
set_option maxRecDepth 20000 in
theorem w2_serversAsBits_L4 {Γ : CT} {sp : Sp} {K : Ly} {sz n : Nat} {v : Int32} {h : Hp}  (X : Ok Γ sp prog_7_method_18_code Rc2 3 (some (.int)) 1 (some (.int v)) sz K h) (hK : LyOk K) (x0 : Nat)  (px0 : K x0 = some (.inl 2))  : ∀ (k : Nat) (x1 : Int32) (x2 : Int32), f2_serversAsBits_L4 K n x0 h  k x1 x2 = some v → Go Γ (0, 0) 4 [(0, .ref x0), (1, .int x1), (2, .int x2)] [] sz K h := by
  intro k
  induction k with
  | zero => intro x1 x2 E; cases E
  | succ k ih =>
    intro x1 x2 E
    unfold f2_serversAsBits_L4 at E
    refine g_iload_n (n := 2) X (by decide +kernel) 2 rfl ?_
    refine g_aload_n (n := 0) X (by decide +kernel) 0 rfl ?_
    refine g_getI X (by decide +kernel) fl2_24 px0 ?_
    rcases it_E E with ⟨c1, E⟩ | ⟨c1, E⟩
    · refine g_icmp_ge_t (off := 20) (tgt := 29) X (by decide +kernel) (by decide) c1 ?_
      refine g_iload_n (n := 1) X (by decide +kernel) 1 rfl ?_
      obtain rfl := Option.some.inj E
      exact g_ireturn X (by decide +kernel)
    · refine g_icmp_ge_f (off := 20) (tgt := 29) X (by decide +kernel) (by decide) c1 ?_
      refine g_iload_n (n := 1) X (by decide +kernel) 1 rfl ?_
      refine g_iconst (n := 1) (x := (1 : Int32)) X (by decide +kernel) (by decide) ?_
      refine g_aload_n (n := 0) X (by decide +kernel) 0 rfl ?_
      refine g_getS X (by decide +kernel) fl2_55 px0 ?_
      refine g_iload_n (n := 2) X (by decide +kernel) 2 rfl ?_
      obtain ⟨c2, E⟩ := gd_E E
      refine g_iald X (by decide +kernel) (ly hK px0 fl2_55 rfl) c2 ?_
      refine g_ishl X (by decide +kernel) ?_
      refine g_ior X (by decide +kernel) ?_
      obtain ⟨x1_3, ex1_3, E⟩ := lt_E E
      refine s_istore_n (n := 1) (i := 1) X (by decide +kernel) rfl (by decide) ex1_3 (ls_next (by decide) (Or.inr rfl) (ls_here (ls_next (by decide) (Or.inr rfl) ls_end))) ?_
      obtain ⟨x2_4, ex2_4, E⟩ := lt_E E
      refine s_iinc (i := 2) (n := 1) (y := x2_4) X (by decide +kernel) 2 rfl (by decide) ex2_4 (ls_next (by decide) (Or.inr rfl) (ls_next (by decide) (Or.inr rfl) (ls_here ls_end))) ?_
      refine g_goto (off := -22) (tgt := 4) X (by decide +kernel) (by decide) ?_
      exact ih x1_3 x2_4  E
set_option maxHeartbeats 4000000 in
set_option maxRecDepth 20000 in
theorem c2_serversAsBits {sp : Sp} {K : Ly} {sz n : Nat} (hK : LyOk K) (o : Nat) (h : Hp) (ho : K o = some (.inl 2)) {v : Int32} (E : f2_serversAsBits K n o h = some v) : Con sp y2_serversAsBits prog_7_method_18_code 3 (some (.int)) 1 0 0 [.ref o] sz K h (some (.int v)) sz K h := by
  refine Con.of (by decide) (Nat.le_of_ble_eq_true rfl) (fun Γ X _ => ?_)
  show Go Γ (0, 0) 0 [(0, .ref o)] [] sz K h
  unfold f2_serversAsBits at E
  refine g_iconst (n := 0) (x := (0 : Int32)) X (by decide +kernel) (by decide) ?_
  refine s_istore_n (n := 1) (i := 1) X (by decide +kernel) rfl (by decide) rfl (ls_next (by decide) (Or.inr rfl) (ls_ins ls_end)) ?_
  refine g_iconst (n := 0) (x := (0 : Int32)) X (by decide +kernel) (by decide) ?_
  refine s_istore_n (n := 2) (i := 2) X (by decide +kernel) rfl (by decide) rfl (ls_next (by decide) (Or.inr rfl) (ls_next (by decide) (Or.inr rfl) (ls_ins ls_end))) ?_
  exact w2_serversAsBits_L4 X hK o ho n (0 : Int32) (0 : Int32) E
-- Net.leavesAsBits
def f2_leavesAsBits_J70 (K : Ly) (n : Nat) (r4 : Int32 → Int32 → Option (Int32)) (x0 : Nat) (x2 : Int32) (s0 : Int32) (s1 : Int32) (h : Hp) : Option (Int32) :=
    lt (s0 ||| s1) fun x1_11 =>
    lt (x2 + (1 : Int32)) fun x2_12 =>
    r4 x1_11 x2_12
def f2_leavesAsBits_L17 (K : Ly) (n : Nat) (x0 : Nat) (x1 : Int32) (x2 : Int32) (h : Hp) (r4 : Int32 → Int32 → Option (Int32)) : Nat → Int32 → Int32 → Option (Int32)
  | 0, _, _ => none
  | k + 1, x3, x4 =>
    if (h.1 x0 2) ≤ x4 then (
    f2_leavesAsBits_J70 K n (r4) x0 x2 x1 (if x3 = (1 : Int32) then ((1 : Int32) <<< (x2 &&& 31)) else (0 : Int32)) h)
    else (
    gd (inb x4 15) <|
    if (h.1 (x0 + 2) x4.toNatClampNeg) = x2 then (
    lt (x3 + (1 : Int32)) fun x3_6 =>
    lt (x4 + (1 : Int32)) fun x4_7 =>
    f2_leavesAsBits_L17 K n x0 x1 x2 h r4 k x3_6 x4_7)
    else (
    gd (inb x4 15) <|
    lt (x4 + (1 : Int32)) fun x4_10 =>
    f2_leavesAsBits_L17 K n x0 x1 x2 h r4 k (if (h.1 (x0 + 3) x4.toNatClampNeg) = x2 then (x3 + (1 : Int32)) else x3) x4_10))
def f2_leavesAsBits_L4 (K : Ly) (n : Nat) (x0 : Nat) (h : Hp)  : Nat → Int32 → Int32 → Option (Int32)
  | 0, _, _ => none
  | k + 1, x1, x2 =>
    if (h.1 x0 0) ≤ x2 then (
    some x1)
    else (
    f2_leavesAsBits_L17 K n x0 x1 x2 h (f2_leavesAsBits_L4 K n x0 h  k) n (0 : Int32) (0 : Int32))
def f2_leavesAsBits (K : Ly) (n : Nat) (o : Nat) (h : Hp) : Option (Int32) :=
    f2_leavesAsBits_L4 K n o h n (0 : Int32) (0 : Int32)
set_option maxHeartbeats 4000000 in
set_option maxRecDepth 20000 in
theorem w2_leavesAsBits_J70 {Γ : CT} {sp : Sp} {K : Ly} {sz n : Nat} {v : Int32} {h : Hp}  {r4 : Int32 → Int32 → Option (Int32)}  (X : Ok Γ sp prog_7_method_19_code Rc2 5 (some (.int)) 1 (some (.int v)) sz K h) (hK : LyOk K) (x0 : Nat) (x2 : Int32) (s0 : Int32) (s1 : Int32)  (hr4 : ∀ (x1 : Int32) (x2 : Int32), r4 x1 x2 = some v → Go Γ (0, 0) 4 [(0, .ref x0), (1, .int x1), (2, .int x2)] [] sz K h) (px0 : K x0 = some (.inl 2)) (E : f2_leavesAsBits_J70 K n r4 x0 x2 s0 s1 h = some v) : Go Γ (0, 0) 70 [(0, .ref x0), (2, .int x2)] [.int s1, .int s0] sz K h := by
  unfold f2_leavesAsBits_J70 at E
  refine g_ior X (by decide +kernel) ?_
  obtain ⟨x1_11, ex1_11, E⟩ := lt_E E
  refine s_istore_n (n := 1) (i := 1) X (by decide +kernel) rfl (by decide) ex1_11 (ls_next (by decide) (Or.inr rfl) (ls_ins (ls_next (by decide) (Or.inr rfl) ls_end))) ?_
  obtain ⟨x2_12, ex2_12, E⟩ := lt_E E
  refine s_iinc (i := 2) (n := 1) (y := x2_12) X (by decide +kernel) 2 rfl (by decide) ex2_12 (ls_next (by decide) (Or.inr rfl) (ls_next (by decide) (Or.inr rfl) (ls_here ls_end))) ?_
  refine g_goto (off := -71) (tgt := 4) X (by decide +kernel) (by decide) ?_
  exact hr4 x1_11 x2_12  E
set_option maxHeartbeats 4000000 in
set_option maxRecDepth 20000 in
theorem w2_leavesAsBits_L17 {Γ : CT} {sp : Sp} {K : Ly} {sz n : Nat} {v : Int32} {h : Hp}  (X : Ok Γ sp prog_7_method_19_code Rc2 5 (some (.int)) 1 (some (.int v)) sz K h) (hK : LyOk K) (x0 : Nat) (x1 : Int32) (x2 : Int32)  {r4 : Int32 → Int32 → Option (Int32)} (px0 : K x0 = some (.inl 2)) (hr4 : ∀ (x1 : Int32) (x2 : Int32), r4 x1 x2 = some v → Go Γ (0, 0) 4 [(0, .ref x0), (1, .int x1), (2, .int x2)] [] sz K h) : ∀ (k : Nat) (x3 : Int32) (x4 : Int32), f2_leavesAsBits_L17 K n x0 x1 x2 h r4 k x3 x4 = some v → Go Γ (0, 0) 17 [(0, .ref x0), (1, .int x1), (2, .int x2), (3, .int x3), (4, .int x4)] [] sz K h := by
  intro k
  induction k with
  | zero => intro x3 x4 E; cases E
  | succ k ih =>
    intro x3 x4 E
    unfold f2_leavesAsBits_L17 at E
    refine g_iload (n := 4) X (by decide +kernel) 4 rfl ?_
    refine g_aload_n (n := 0) X (by decide +kernel) 0 rfl ?_
    refine g_getI X (by decide +kernel) fl2_18 px0 ?_
    rcases it_E E with ⟨c2, E⟩ | ⟨c2, E⟩
    · refine g_icmp_ge_t (off := 34) (tgt := 57) X (by decide +kernel) (by decide) c2 ?_
      refine g_iload_n (n := 1) X (by decide +kernel) 1 rfl ?_
      refine g_iload_n (n := 3) X (by decide +kernel) 3 rfl ?_
      refine g_iconst (n := 1) (x := (1 : Int32)) X (by decide +kernel) (by decide) ?_
      have hJ : Go Γ (0, 0) 70 [(0, .ref x0), (2, .int x2)] [.int (if x3 = (1 : Int32) then ((1 : Int32) <<< (x2 &&& 31)) else (0 : Int32)), .int x1] sz K h := by
        exact w2_leavesAsBits_J70 X hK x0 x2 x1 (if x3 = (1 : Int32) then ((1 : Int32) <<< (x2 &&& 31)) else (0 : Int32)) hr4 px0 E
      clear E
      by_cases c3 : x3 = (1 : Int32)
      · rw [if_pos c3] at hJ
        refine g_icmp_ne_f (off := 9) (tgt := 69) X (by decide +kernel) (by decide) (fun z => z c3) ?_
        refine g_iconst (n := 1) (x := (1 : Int32)) X (by decide +kernel) (by decide) ?_
        refine g_iload_n (n := 2) X (by decide +kernel) 2 rfl ?_
        refine g_ishl X (by decide +kernel) ?_
        refine g_goto (off := 4) (tgt := 70) X (by decide +kernel) (by decide) ?_
        refine g_sub [0, 2] rfl ?_
        exact hJ
      · rw [if_neg c3] at hJ
        refine g_icmp_ne_t (off := 9) (tgt := 69) X (by decide +kernel) (by decide) c3 ?_
        refine g_iconst (n := 0) (x := (0 : Int32)) X (by decide +kernel) (by decide) ?_
        refine g_sub [0, 2] rfl ?_
        exact hJ
    · refine g_icmp_ge_f (off := 34) (tgt := 57) X (by decide +kernel) (by decide) c2 ?_
      refine g_aload_n (n := 0) X (by decide +kernel) 0 rfl ?_
      refine g_getS X (by decide +kernel) fl2_31 px0 ?_
      refine g_iload (n := 4) X (by decide +kernel) 4 rfl ?_
      obtain ⟨c4, E⟩ := gd_E E
      refine g_iald X (by decide +kernel) (ly hK px0 fl2_31 rfl) c4 ?_
      refine g_iload_n (n := 2) X (by decide +kernel) 2 rfl ?_
      rcases it_E E with ⟨c5, E⟩ | ⟨c5, E⟩
      · refine g_icmp_eq_t (off := 14) (tgt := 48) X (by decide +kernel) (by decide) c5 ?_
        obtain ⟨x3_6, ex3_6, E⟩ := lt_E E
        refine s_iinc (i := 3) (n := 1) (y := x3_6) X (by decide +kernel) 3 rfl (by decide) ex3_6 (ls_next (by decide) (Or.inr rfl) (ls_next (by decide) (Or.inr rfl) (ls_next (by decide) (Or.inr rfl) (ls_here (ls_next (by decide) (Or.inr rfl) ls_end))))) ?_
        obtain ⟨x4_7, ex4_7, E⟩ := lt_E E
        refine s_iinc (i := 4) (n := 1) (y := x4_7) X (by decide +kernel) 4 rfl (by decide) ex4_7 (ls_next (by decide) (Or.inr rfl) (ls_next (by decide) (Or.inr rfl) (ls_next (by decide) (Or.inr rfl) (ls_next (by decide) (Or.inr rfl) (ls_here ls_end))))) ?_
        refine g_goto (off := -37) (tgt := 17) X (by decide +kernel) (by decide) ?_
        exact ih x3_6 x4_7  E
      · refine g_icmp_eq_f (off := 14) (tgt := 48) X (by decide +kernel) (by decide) c5 ?_
        refine g_aload_n (n := 0) X (by decide +kernel) 0 rfl ?_
        refine g_getS X (by decide +kernel) fl2_34 px0 ?_
        refine g_iload (n := 4) X (by decide +kernel) 4 rfl ?_
        obtain ⟨c8, E⟩ := gd_E E
        refine g_iald X (by decide +kernel) (ly hK px0 fl2_34 rfl) c8 ?_
        refine g_iload_n (n := 2) X (by decide +kernel) 2 rfl ?_
        have hJ : Go Γ (0, 0) 51 [(0, .ref x0), (1, .int x1), (2, .int x2), (3, .int (if (h.1 (x0 + 3) x4.toNatClampNeg) = x2 then (x3 + (1 : Int32)) else x3)), (4, .int x4)] [] sz K h := by
          obtain ⟨x4_10, ex4_10, E⟩ := lt_E E
          refine s_iinc (i := 4) (n := 1) (y := x4_10) X (by decide +kernel) 4 rfl (by decide) ex4_10 (ls_next (by decide) (Or.inr rfl) (ls_next (by decide) (Or.inr rfl) (ls_next (by decide) (Or.inr rfl) (ls_next (by decide) (Or.inr rfl) (ls_here ls_end))))) ?_
          refine g_goto (off := -37) (tgt := 17) X (by decide +kernel) (by decide) ?_
          exact ih (if (h.1 (x0 + 3) x4.toNatClampNeg) = x2 then (x3 + (1 : Int32)) else x3) x4_10  E
        clear E
        by_cases c9 : (h.1 (x0 + 3) x4.toNatClampNeg) = x2
        · rw [if_pos c9] at hJ
          refine g_icmp_ne_f (off := 6) (tgt := 51) X (by decide +kernel) (by decide) (fun z => z c9) ?_
          refine s_iinc (i := 3) (n := 1) (y := (x3 + (1 : Int32))) X (by decide +kernel) 3 rfl (by decide) rfl (ls_next (by decide) (Or.inr rfl) (ls_next (by decide) (Or.inr rfl) (ls_next (by decide) (Or.inr rfl) (ls_here (ls_next (by decide) (Or.inr rfl) ls_end))))) ?_
          exact hJ
        · rw [if_neg c9] at hJ
          refine g_icmp_ne_t (off := 6) (tgt := 51) X (by decide +kernel) (by decide) c9 ?_
          exact hJ
set_option maxHeartbeats 4000000 in
set_option maxRecDepth 20000 in
theorem w2_leavesAsBits_L4 {Γ : CT} {sp : Sp} {K : Ly} {sz n : Nat} {v : Int32} {h : Hp}  (X : Ok Γ sp prog_7_method_19_code Rc2 5 (some (.int)) 1 (some (.int v)) sz K h) (hK : LyOk K) (x0 : Nat)  (px0 : K x0 = some (.inl 2))  : ∀ (k : Nat) (x1 : Int32) (x2 : Int32), f2_leavesAsBits_L4 K n x0 h  k x1 x2 = some v → Go Γ (0, 0) 4 [(0, .ref x0), (1, .int x1), (2, .int x2)] [] sz K h := by
  intro k
  induction k with
  | zero => intro x1 x2 E; cases E
  | succ k ih =>
    intro x1 x2 E
    unfold f2_leavesAsBits_L4 at E
    refine g_iload_n (n := 2) X (by decide +kernel) 2 rfl ?_
    refine g_aload_n (n := 0) X (by decide +kernel) 0 rfl ?_
    refine g_getI X (by decide +kernel) fl2_9 px0 ?_
    rcases it_E E with ⟨c1, E⟩ | ⟨c1, E⟩
    · refine g_icmp_ge_t (off := 69) (tgt := 78) X (by decide +kernel) (by decide) c1 ?_
      refine g_iload_n (n := 1) X (by decide +kernel) 1 rfl ?_
      obtain rfl := Option.some.inj E
      exact g_ireturn X (by decide +kernel)
    · refine g_icmp_ge_f (off := 69) (tgt := 78) X (by decide +kernel) (by decide) c1 ?_
      refine g_iconst (n := 0) (x := (0 : Int32)) X (by decide +kernel) (by decide) ?_
      refine s_istore_n (n := 3) (i := 3) X (by decide +kernel) rfl (by decide) rfl (ls_next (by decide) (Or.inr rfl) (ls_next (by decide) (Or.inr rfl) (ls_next (by decide) (Or.inr rfl) (ls_ins ls_end)))) ?_
      refine g_iconst (n := 0) (x := (0 : Int32)) X (by decide +kernel) (by decide) ?_
      refine s_istore (i := 4) X (by decide +kernel) (by decide) rfl (ls_next (by decide) (Or.inr rfl) (ls_next (by decide) (Or.inr rfl) (ls_next (by decide) (Or.inr rfl) (ls_next (by decide) (Or.inr rfl) (ls_ins ls_end))))) ?_
      exact w2_leavesAsBits_L17 X hK x0 x1 x2 px0 ih n (0 : Int32) (0 : Int32) E
set_option maxHeartbeats 4000000 in
set_option maxRecDepth 20000 in
theorem c2_leavesAsBits {sp : Sp} {K : Ly} {sz n : Nat} (hK : LyOk K) (o : Nat) (h : Hp) (ho : K o = some (.inl 2)) {v : Int32} (E : f2_leavesAsBits K n o h = some v) : Con sp y2_leavesAsBits prog_7_method_19_code 5 (some (.int)) 1 0 0 [.ref o] sz K h (some (.int v)) sz K h := by
  refine Con.of (by decide) (Nat.le_of_ble_eq_true rfl) (fun Γ X _ => ?_)
  show Go Γ (0, 0) 0 [(0, .ref o)] [] sz K h
  unfold f2_leavesAsBits at E
  refine g_iconst (n := 0) (x := (0 : Int32)) X (by decide +kernel) (by decide) ?_
  refine s_istore_n (n := 1) (i := 1) X (by decide +kernel) rfl (by decide) rfl (ls_next (by decide) (Or.inr rfl) (ls_ins ls_end)) ?_
  refine g_iconst (n := 0) (x := (0 : Int32)) X (by decide +kernel) (by decide) ?_
  refine s_istore_n (n := 2) (i := 2) X (by decide +kernel) rfl (by decide) rfl (ls_next (by decide) (Or.inr rfl) (ls_next (by decide) (Or.inr rfl) (ls_ins ls_end))) ?_
  exact w2_leavesAsBits_L4 X hK o ho n (0 : Int32) (0 : Int32) E
-- Net.blindAsBits
def f2_blindAsBits_L4 (K : Ly) (n : Nat) (x0 : Nat) (h : Hp)  : Nat → Int32 → Int32 → Option (Int32)
  | 0, _, _ => none
  | k + 1, x1, x2 =>
    if (h.1 x0 3) ≤ x2 then (
    some x1)
    else (
    gd (inb x2 12) <|
    gd (inb x2 12) <|
    bp (f2_linkBetween K n x0 (h.1 (x0 + 6) x2.toNatClampNeg) (h.1 (x0 + 8) x2.toNatClampNeg) h) fun y5 =>
    lt (x2 + (1 : Int32)) fun x2_7 =>
    f2_blindAsBits_L4 K n x0 h  k (if y5 = (-1 : Int32) then (x1 ||| ((1 : Int32) <<< (x2 &&& 31))) else x1) x2_7)
def f2_blindAsBits (K : Ly) (n : Nat) (o : Nat) (h : Hp) : Option (Int32) :=
    f2_blindAsBits_L4 K n o h n (0 : Int32) (0 : Int32)
set_option maxHeartbeats 4000000 in
set_option maxRecDepth 20000 in
theorem w2_blindAsBits_L4 {Γ : CT} {sp : Sp} {K : Ly} {sz n : Nat} {v : Int32} {h : Hp}  (X : Ok Γ sp prog_7_method_20_code Rc2 3 (some (.int)) 3 (some (.int v)) sz K h) (hK : LyOk K) (x0 : Nat)  (px0 : K x0 = some (.inl 2))  : ∀ (k : Nat) (x1 : Int32) (x2 : Int32), f2_blindAsBits_L4 K n x0 h  k x1 x2 = some v → Go Γ (0, 0) 4 [(0, .ref x0), (1, .int x1), (2, .int x2)] [] sz K h := by
  intro k
  induction k with
  | zero => intro x1 x2 E; cases E
  | succ k ih =>
    intro x1 x2 E
    unfold f2_blindAsBits_L4 at E
    refine g_iload_n (n := 2) X (by decide +kernel) 2 rfl ?_
    refine g_aload_n (n := 0) X (by decide +kernel) 0 rfl ?_
    refine g_getI X (by decide +kernel) fl2_21 px0 ?_
    rcases it_E E with ⟨c1, E⟩ | ⟨c1, E⟩
    · refine g_icmp_ge_t (off := 35) (tgt := 44) X (by decide +kernel) (by decide) c1 ?_
      refine g_iload_n (n := 1) X (by decide +kernel) 1 rfl ?_
      obtain rfl := Option.some.inj E
      exact g_ireturn X (by decide +kernel)
    · refine g_icmp_ge_f (off := 35) (tgt := 44) X (by decide +kernel) (by decide) c1 ?_
      refine g_aload_n (n := 0) X (by decide +kernel) 0 rfl ?_
      refine g_aload_n (n := 0) X (by decide +kernel) 0 rfl ?_
      refine g_getS X (by decide +kernel) fl2_43 px0 ?_
      refine g_iload_n (n := 2) X (by decide +kernel) 2 rfl ?_
      obtain ⟨c2, E⟩ := gd_E E
      refine g_iald X (by decide +kernel) (ly hK px0 fl2_43 rfl) c2 ?_
      refine g_aload_n (n := 0) X (by decide +kernel) 0 rfl ?_
      refine g_getS X (by decide +kernel) fl2_49 px0 ?_
      refine g_iload_n (n := 2) X (by decide +kernel) 2 rfl ?_
      obtain ⟨c3, E⟩ := gd_E E
      refine g_iald X (by decide +kernel) (ly hK px0 fl2_49 rfl) c3 ?_
      obtain ⟨y5, e4, E⟩ := bp_E E
      refine g_callV1 (st := []) X [.int (h.1 (x0 + 6) x2.toNatClampNeg), .int (h.1 (x0 + 8) x2.toNatClampNeg)] (by decide +kernel) ml2_80 px0 rfl rfl (by decide) (Nat.le_of_ble_eq_true rfl) (c2_linkBetween hK x0 (h.1 (x0 + 6) x2.toNatClampNeg) (h.1 (x0 + 8) x2.toNatClampNeg) h px0 e4) ?_
      refine g_iconst (n := -1) (x := (-1 : Int32)) X (by decide +kernel) (by decide) ?_
      have hJ : Go Γ (0, 0) 38 [(0, .ref x0), (1, .int (if y5 = (-1 : Int32) then (x1 ||| ((1 : Int32) <<< (x2 &&& 31))) else x1)), (2, .int x2)] [] sz K h := by
        obtain ⟨x2_7, ex2_7, E⟩ := lt_E E
        refine s_iinc (i := 2) (n := 1) (y := x2_7) X (by decide +kernel) 2 rfl (by decide) ex2_7 (ls_next (by decide) (Or.inr rfl) (ls_next (by decide) (Or.inr rfl) (ls_here ls_end))) ?_
        refine g_goto (off := -37) (tgt := 4) X (by decide +kernel) (by decide) ?_
        exact ih (if y5 = (-1 : Int32) then (x1 ||| ((1 : Int32) <<< (x2 &&& 31))) else x1) x2_7  E
      clear E
      by_cases c6 : y5 = (-1 : Int32)
      · rw [if_pos c6] at hJ
        refine g_icmp_ne_f (off := 9) (tgt := 38) X (by decide +kernel) (by decide) (fun z => z c6) ?_
        refine g_iload_n (n := 1) X (by decide +kernel) 1 rfl ?_
        refine g_iconst (n := 1) (x := (1 : Int32)) X (by decide +kernel) (by decide) ?_
        refine g_iload_n (n := 2) X (by decide +kernel) 2 rfl ?_
        refine g_ishl X (by decide +kernel) ?_
        refine g_ior X (by decide +kernel) ?_
        refine s_istore_n (n := 1) (i := 1) X (by decide +kernel) rfl (by decide) rfl (ls_next (by decide) (Or.inr rfl) (ls_here (ls_next (by decide) (Or.inr rfl) ls_end))) ?_
        exact hJ
      · rw [if_neg c6] at hJ
        refine g_icmp_ne_t (off := 9) (tgt := 38) X (by decide +kernel) (by decide) c6 ?_
        exact hJ
set_option maxHeartbeats 4000000 in
set_option maxRecDepth 20000 in
theorem c2_blindAsBits {sp : Sp} {K : Ly} {sz n : Nat} (hK : LyOk K) (o : Nat) (h : Hp) (ho : K o = some (.inl 2)) {v : Int32} (E : f2_blindAsBits K n o h = some v) : Con sp y2_blindAsBits prog_7_method_20_code 3 (some (.int)) 3 0 0 [.ref o] sz K h (some (.int v)) sz K h := by
  refine Con.of (by decide) (Nat.le_of_ble_eq_true rfl) (fun Γ X _ => ?_)
  show Go Γ (0, 0) 0 [(0, .ref o)] [] sz K h
  unfold f2_blindAsBits at E
  refine g_iconst (n := 0) (x := (0 : Int32)) X (by decide +kernel) (by decide) ?_
  refine s_istore_n (n := 1) (i := 1) X (by decide +kernel) rfl (by decide) rfl (ls_next (by decide) (Or.inr rfl) (ls_ins ls_end)) ?_
  refine g_iconst (n := 0) (x := (0 : Int32)) X (by decide +kernel) (by decide) ?_
  refine s_istore_n (n := 2) (i := 2) X (by decide +kernel) rfl (by decide) rfl (ls_next (by decide) (Or.inr rfl) (ls_next (by decide) (Or.inr rfl) (ls_ins ls_end))) ?_
  exact w2_blindAsBits_L4 X hK o ho n (0 : Int32) (0 : Int32) E
-- Net.hiddenAsBits
def f2_hiddenAsBits_J54 (K : Ly) (n : Nat) (r4 : Int32 → Int32 → Option (Int32)) (r14 : Int32 → Int32 → Option (Int32)) (x0 : Nat) (x1 : Int32) (x2 : Int32) (x3 : Int32) (s0 : Int32) (h : Hp) : Option (Int32) :=
    if s0 = 0 then (
    lt (x3 + (1 : Int32)) fun x3_11 =>
    r14 x1 x3_11)
    else (
    gd (inb x3 12) <|
    gd (inb x2 12) <|
    lt (x3 + (1 : Int32)) fun x3_15 =>
    r14 (if (h.1 (x0 + 7) x3.toNatClampNeg) = (h.1 (x0 + 7) x2.toNatClampNeg) then (x1 ||| ((1 : Int32) <<< (x2 &&& 31))) else x1) x3_15)
def f2_hiddenAsBits_J53 (K : Ly) (n : Nat) (r4 : Int32 → Int32 → Option (Int32)) (r14 : Int32 → Int32 → Option (Int32)) (x0 : Nat) (x1 : Int32) (x2 : Int32) (x3 : Int32) (h : Hp) : Option (Int32) :=
    f2_hiddenAsBits_J54 K n (r4) (r14) x0 x1 x2 x3 (0 : Int32) h
def f2_hiddenAsBits_L14 (K : Ly) (n : Nat) (x0 : Nat) (x2 : Int32) (h : Hp) (r4 : Int32 → Int32 → Option (Int32)) : Nat → Int32 → Int32 → Option (Int32)
  | 0, _, _ => none
  | k + 1, x1, x3 =>
    if x2 ≤ x3 then (
    lt (x2 + (1 : Int32)) fun x2_3 =>
    r4 x1 x2_3)
    else (
    gd (inb x3 12) <|
    gd (inb x2 12) <|
    if (h.1 (x0 + 6) x3.toNatClampNeg) = (h.1 (x0 + 6) x2.toNatClampNeg) then (
    gd (inb x3 12) <|
    gd (inb x2 12) <|
    f2_hiddenAsBits_J54 K n (r4) (f2_hiddenAsBits_L14 K n x0 x2 h r4 k) x0 x1 x2 x3 (if (h.1 (x0 + 8) x3.toNatClampNeg) = (h.1 (x0 + 8) x2.toNatClampNeg) then (1 : Int32) else (0 : Int32)) h)
    else (
    f2_hiddenAsBits_J53 K n (r4) (f2_hiddenAsBits_L14 K n x0 x2 h r4 k) x0 x1 x2 x3 h))
def f2_hiddenAsBits_L4 (K : Ly) (n : Nat) (x0 : Nat) (h : Hp)  : Nat → Int32 → Int32 → Option (Int32)
  | 0, _, _ => none
  | k + 1, x1, x2 =>
    if (h.1 x0 3) ≤ x2 then (
    some x1)
    else (
    f2_hiddenAsBits_L14 K n x0 x2 h (f2_hiddenAsBits_L4 K n x0 h  k) n x1 (0 : Int32))
def f2_hiddenAsBits (K : Ly) (n : Nat) (o : Nat) (h : Hp) : Option (Int32) :=
    f2_hiddenAsBits_L4 K n o h n (0 : Int32) (0 : Int32)
set_option maxHeartbeats 4000000 in
set_option maxRecDepth 20000 in
theorem w2_hiddenAsBits_J54 {Γ : CT} {sp : Sp} {K : Ly} {sz n : Nat} {v : Int32} {h : Hp}  {r4 : Int32 → Int32 → Option (Int32)} {r14 : Int32 → Int32 → Option (Int32)}  (X : Ok Γ sp prog_7_method_21_code Rc2 5 (some (.int)) 1 (some (.int v)) sz K h) (hK : LyOk K) (x0 : Nat) (x1 : Int32) (x2 : Int32) (x3 : Int32) (s0 : Int32)  (hr4 : ∀ (x1 : Int32) (x2 : Int32), r4 x1 x2 = some v → Go Γ (0, 0) 4 [(0, .ref x0), (1, .int x1), (2, .int x2)] [] sz K h) (hr14 : ∀ (x1 : Int32) (x3 : Int32), r14 x1 x3 = some v → Go Γ (0, 0) 14 [(0, .ref x0), (1, .int x1), (2, .int x2), (3, .int x3)] [] sz K h) (px0 : K x0 = some (.inl 2)) (E : f2_hiddenAsBits_J54 K n r4 r14 x0 x1 x2 x3 s0 h = some v) : Go Γ (0, 0) 54 [(0, .ref x0), (1, .int x1), (2, .int x2), (3, .int x3)] [.int s0] sz K h := by
  unfold f2_hiddenAsBits_J54 at E
  refine s_istore (i := 4) X (by decide +kernel) (by decide) rfl (ls_next (by decide) (Or.inr rfl) (ls_next (by decide) (Or.inr rfl) (ls_next (by decide) (Or.inr rfl) (ls_next (by decide) (Or.inr rfl) (ls_ins ls_end))))) ?_
  refine g_iload (n := 4) X (by decide +kernel) 4 rfl ?_
  rcases it_E E with ⟨c10, E⟩ | ⟨c10, E⟩
  · refine g_if_eq_t (off := 24) (tgt := 82) X (by decide +kernel) (by decide) c10 ?_
    obtain ⟨x3_11, ex3_11, E⟩ := lt_E E
    refine s_iinc (i := 3) (n := 1) (y := x3_11) X (by decide +kernel) 3 rfl (by decide) ex3_11 (ls_next (by decide) (Or.inr rfl) (ls_next (by decide) (Or.inr rfl) (ls_next (by decide) (Or.inr rfl) (ls_here (ls_next (by decide) (Or.inr rfl) ls_end))))) ?_
    refine g_goto (off := -71) (tgt := 14) X (by decide +kernel) (by decide) ?_
    refine g_sub [0, 1, 2, 3] rfl ?_
    exact hr14 x1 x3_11  E
  · refine g_if_eq_f (off := 24) (tgt := 82) X (by decide +kernel) (by decide) c10 ?_
    refine g_aload_n (n := 0) X (by decide +kernel) 0 rfl ?_
    refine g_getS X (by decide +kernel) fl2_46 px0 ?_
    refine g_iload_n (n := 3) X (by decide +kernel) 3 rfl ?_
    obtain ⟨c12, E⟩ := gd_E E
    refine g_iald X (by decide +kernel) (ly hK px0 fl2_46 rfl) c12 ?_
    refine g_aload_n (n := 0) X (by decide +kernel) 0 rfl ?_
    refine g_getS X (by decide +kernel) fl2_46 px0 ?_
    refine g_iload_n (n := 2) X (by decide +kernel) 2 rfl ?_
    obtain ⟨c13, E⟩ := gd_E E
    refine g_iald X (by decide +kernel) (ly hK px0 fl2_46 rfl) c13 ?_
    have hJ : Go Γ (0, 0) 82 [(0, .ref x0), (1, .int (if (h.1 (x0 + 7) x3.toNatClampNeg) = (h.1 (x0 + 7) x2.toNatClampNeg) then (x1 ||| ((1 : Int32) <<< (x2 &&& 31))) else x1)), (2, .int x2), (3, .int x3)] [] sz K h := by
      obtain ⟨x3_15, ex3_15, E⟩ := lt_E E
      refine s_iinc (i := 3) (n := 1) (y := x3_15) X (by decide +kernel) 3 rfl (by decide) ex3_15 (ls_next (by decide) (Or.inr rfl) (ls_next (by decide) (Or.inr rfl) (ls_next (by decide) (Or.inr rfl) (ls_here ls_end)))) ?_
      refine g_goto (off := -71) (tgt := 14) X (by decide +kernel) (by decide) ?_
      exact hr14 (if (h.1 (x0 + 7) x3.toNatClampNeg) = (h.1 (x0 + 7) x2.toNatClampNeg) then (x1 ||| ((1 : Int32) <<< (x2 &&& 31))) else x1) x3_15  E
    clear E
    by_cases c14 : (h.1 (x0 + 7) x3.toNatClampNeg) = (h.1 (x0 + 7) x2.toNatClampNeg)
    · rw [if_pos c14] at hJ
      refine g_icmp_ne_f (off := 9) (tgt := 82) X (by decide +kernel) (by decide) (fun z => z c14) ?_
      refine g_iload_n (n := 1) X (by decide +kernel) 1 rfl ?_
      refine g_iconst (n := 1) (x := (1 : Int32)) X (by decide +kernel) (by decide) ?_
      refine g_iload_n (n := 2) X (by decide +kernel) 2 rfl ?_
      refine g_ishl X (by decide +kernel) ?_
      refine g_ior X (by decide +kernel) ?_
      refine s_istore_n (n := 1) (i := 1) X (by decide +kernel) rfl (by decide) rfl (ls_next (by decide) (Or.inr rfl) (ls_here (ls_next (by decide) (Or.inr rfl) (ls_next (by decide) (Or.inr rfl) (ls_next (by decide) (Or.inr rfl) ls_end))))) ?_
      refine g_sub [0, 1, 2, 3] rfl ?_
      exact hJ
    · rw [if_neg c14] at hJ
      refine g_icmp_ne_t (off := 9) (tgt := 82) X (by decide +kernel) (by decide) c14 ?_
      refine g_sub [0, 1, 2, 3] rfl ?_
      exact hJ
set_option maxHeartbeats 4000000 in
set_option maxRecDepth 20000 in
theorem w2_hiddenAsBits_J53 {Γ : CT} {sp : Sp} {K : Ly} {sz n : Nat} {v : Int32} {h : Hp}  {r4 : Int32 → Int32 → Option (Int32)} {r14 : Int32 → Int32 → Option (Int32)}  (X : Ok Γ sp prog_7_method_21_code Rc2 5 (some (.int)) 1 (some (.int v)) sz K h) (hK : LyOk K) (x0 : Nat) (x1 : Int32) (x2 : Int32) (x3 : Int32)  (hr4 : ∀ (x1 : Int32) (x2 : Int32), r4 x1 x2 = some v → Go Γ (0, 0) 4 [(0, .ref x0), (1, .int x1), (2, .int x2)] [] sz K h) (hr14 : ∀ (x1 : Int32) (x3 : Int32), r14 x1 x3 = some v → Go Γ (0, 0) 14 [(0, .ref x0), (1, .int x1), (2, .int x2), (3, .int x3)] [] sz K h) (px0 : K x0 = some (.inl 2)) (E : f2_hiddenAsBits_J53 K n r4 r14 x0 x1 x2 x3 h = some v) : Go Γ (0, 0) 53 [(0, .ref x0), (1, .int x1), (2, .int x2), (3, .int x3)] [] sz K h := by
  unfold f2_hiddenAsBits_J53 at E
  refine g_iconst (n := 0) (x := (0 : Int32)) X (by decide +kernel) (by decide) ?_
  exact w2_hiddenAsBits_J54 X hK x0 x1 x2 x3 (0 : Int32) hr4 hr14 px0 E
set_option maxHeartbeats 4000000 in
set_option maxRecDepth 20000 in
theorem w2_hiddenAsBits_L14 {Γ : CT} {sp : Sp} {K : Ly} {sz n : Nat} {v : Int32} {h : Hp}  (X : Ok Γ sp prog_7_method_21_code Rc2 5 (some (.int)) 1 (some (.int v)) sz K h) (hK : LyOk K) (x0 : Nat) (x2 : Int32)  {r4 : Int32 → Int32 → Option (Int32)} (px0 : K x0 = some (.inl 2)) (hr4 : ∀ (x1 : Int32) (x2 : Int32), r4 x1 x2 = some v → Go Γ (0, 0) 4 [(0, .ref x0), (1, .int x1), (2, .int x2)] [] sz K h) : ∀ (k : Nat) (x1 : Int32) (x3 : Int32), f2_hiddenAsBits_L14 K n x0 x2 h r4 k x1 x3 = some v → Go Γ (0, 0) 14 [(0, .ref x0), (1, .int x1), (2, .int x2), (3, .int x3)] [] sz K h := by
  intro k
  induction k with
  | zero => intro x1 x3 E; cases E
  | succ k ih =>
    intro x1 x3 E
    unfold f2_hiddenAsBits_L14 at E
    refine g_iload_n (n := 3) X (by decide +kernel) 3 rfl ?_
    refine g_iload_n (n := 2) X (by decide +kernel) 2 rfl ?_
    rcases it_E E with ⟨c2, E⟩ | ⟨c2, E⟩
    · refine g_icmp_ge_t (off := 72) (tgt := 88) X (by decide +kernel) (by decide) c2 ?_
      obtain ⟨x2_3, ex2_3, E⟩ := lt_E E
      refine s_iinc (i := 2) (n := 1) (y := x2_3) X (by decide +kernel) 2 rfl (by decide) ex2_3 (ls_next (by decide) (Or.inr rfl) (ls_next (by decide) (Or.inr rfl) (ls_here (ls_next (by decide) (Or.inr rfl) ls_end)))) ?_
      refine g_goto (off := -87) (tgt := 4) X (by decide +kernel) (by decide) ?_
      refine g_sub [0, 1, 2] rfl ?_
      exact hr4 x1 x2_3  E
    · refine g_icmp_ge_f (off := 72) (tgt := 88) X (by decide +kernel) (by decide) c2 ?_
      refine g_aload_n (n := 0) X (by decide +kernel) 0 rfl ?_
      refine g_getS X (by decide +kernel) fl2_43 px0 ?_
      refine g_iload_n (n := 3) X (by decide +kernel) 3 rfl ?_
      obtain ⟨c4, E⟩ := gd_E E
      refine g_iald X (by decide +kernel) (ly hK px0 fl2_43 rfl) c4 ?_
      refine g_aload_n (n := 0) X (by decide +kernel) 0 rfl ?_
      refine g_getS X (by decide +kernel) fl2_43 px0 ?_
      refine g_iload_n (n := 2) X (by decide +kernel) 2 rfl ?_
      obtain ⟨c5, E⟩ := gd_E E
      refine g_iald X (by decide +kernel) (ly hK px0 fl2_43 rfl) c5 ?_
      rcases it_E E with ⟨c6, E⟩ | ⟨c6, E⟩
      · refine g_icmp_ne_f (off := 22) (tgt := 53) X (by decide +kernel) (by decide) (fun z => z c6) ?_
        refine g_aload_n (n := 0) X (by decide +kernel) 0 rfl ?_
        refine g_getS X (by decide +kernel) fl2_49 px0 ?_
        refine g_iload_n (n := 3) X (by decide +kernel) 3 rfl ?_
        obtain ⟨c7, E⟩ := gd_E E
        refine g_iald X (by decide +kernel) (ly hK px0 fl2_49 rfl) c7 ?_
        refine g_aload_n (n := 0) X (by decide +kernel) 0 rfl ?_
        refine g_getS X (by decide +kernel) fl2_49 px0 ?_
        refine g_iload_n (n := 2) X (by decide +kernel) 2 rfl ?_
        obtain ⟨c8, E⟩ := gd_E E
        refine g_iald X (by decide +kernel) (ly hK px0 fl2_49 rfl) c8 ?_
        have hJ : Go Γ (0, 0) 54 [(0, .ref x0), (1, .int x1), (2, .int x2), (3, .int x3)] [.int (if (h.1 (x0 + 8) x3.toNatClampNeg) = (h.1 (x0 + 8) x2.toNatClampNeg) then (1 : Int32) else (0 : Int32))] sz K h := by
          exact w2_hiddenAsBits_J54 X hK x0 x1 x2 x3 (if (h.1 (x0 + 8) x3.toNatClampNeg) = (h.1 (x0 + 8) x2.toNatClampNeg) then (1 : Int32) else (0 : Int32)) hr4 ih px0 E
        clear E
        by_cases c9 : (h.1 (x0 + 8) x3.toNatClampNeg) = (h.1 (x0 + 8) x2.toNatClampNeg)
        · rw [if_pos c9] at hJ
          refine g_icmp_ne_f (off := 7) (tgt := 53) X (by decide +kernel) (by decide) (fun z => z c9) ?_
          refine g_iconst (n := 1) (x := (1 : Int32)) X (by decide +kernel) (by decide) ?_
          refine g_goto (off := 4) (tgt := 54) X (by decide +kernel) (by decide) ?_
          exact hJ
        · rw [if_neg c9] at hJ
          refine g_icmp_ne_t (off := 7) (tgt := 53) X (by decide +kernel) (by decide) c9 ?_
          refine g_iconst (n := 0) (x := (0 : Int32)) X (by decide +kernel) (by decide) ?_
          exact hJ
      · refine g_icmp_ne_t (off := 22) (tgt := 53) X (by decide +kernel) (by decide) c6 ?_
        exact w2_hiddenAsBits_J53 X hK x0 x1 x2 x3 hr4 ih px0 E
set_option maxHeartbeats 4000000 in
set_option maxRecDepth 20000 in
theorem w2_hiddenAsBits_L4 {Γ : CT} {sp : Sp} {K : Ly} {sz n : Nat} {v : Int32} {h : Hp}  (X : Ok Γ sp prog_7_method_21_code Rc2 5 (some (.int)) 1 (some (.int v)) sz K h) (hK : LyOk K) (x0 : Nat)  (px0 : K x0 = some (.inl 2))  : ∀ (k : Nat) (x1 : Int32) (x2 : Int32), f2_hiddenAsBits_L4 K n x0 h  k x1 x2 = some v → Go Γ (0, 0) 4 [(0, .ref x0), (1, .int x1), (2, .int x2)] [] sz K h := by
  intro k
  induction k with
  | zero => intro x1 x2 E; cases E
  | succ k ih =>
    intro x1 x2 E
    unfold f2_hiddenAsBits_L4 at E
    refine g_iload_n (n := 2) X (by decide +kernel) 2 rfl ?_
    refine g_aload_n (n := 0) X (by decide +kernel) 0 rfl ?_
    refine g_getI X (by decide +kernel) fl2_21 px0 ?_
    rcases it_E E with ⟨c1, E⟩ | ⟨c1, E⟩
    · refine g_icmp_ge_t (off := 85) (tgt := 94) X (by decide +kernel) (by decide) c1 ?_
      refine g_iload_n (n := 1) X (by decide +kernel) 1 rfl ?_
      obtain rfl := Option.some.inj E
      exact g_ireturn X (by decide +kernel)
    · refine g_icmp_ge_f (off := 85) (tgt := 94) X (by decide +kernel) (by decide) c1 ?_
      refine g_iconst (n := 0) (x := (0 : Int32)) X (by decide +kernel) (by decide) ?_
      refine s_istore_n (n := 3) (i := 3) X (by decide +kernel) rfl (by decide) rfl (ls_next (by decide) (Or.inr rfl) (ls_next (by decide) (Or.inr rfl) (ls_next (by decide) (Or.inr rfl) (ls_ins ls_end)))) ?_
      exact w2_hiddenAsBits_L14 X hK x0 x2 px0 ih n x1 (0 : Int32) E
set_option maxHeartbeats 4000000 in
set_option maxRecDepth 20000 in
theorem c2_hiddenAsBits {sp : Sp} {K : Ly} {sz n : Nat} (hK : LyOk K) (o : Nat) (h : Hp) (ho : K o = some (.inl 2)) {v : Int32} (E : f2_hiddenAsBits K n o h = some v) : Con sp y2_hiddenAsBits prog_7_method_21_code 5 (some (.int)) 1 0 0 [.ref o] sz K h (some (.int v)) sz K h := by
  refine Con.of (by decide) (Nat.le_of_ble_eq_true rfl) (fun Γ X _ => ?_)
  show Go Γ (0, 0) 0 [(0, .ref o)] [] sz K h
  unfold f2_hiddenAsBits at E
  refine g_iconst (n := 0) (x := (0 : Int32)) X (by decide +kernel) (by decide) ?_
  refine s_istore_n (n := 1) (i := 1) X (by decide +kernel) rfl (by decide) rfl (ls_next (by decide) (Or.inr rfl) (ls_ins ls_end)) ?_
  refine g_iconst (n := 0) (x := (0 : Int32)) X (by decide +kernel) (by decide) ?_
  refine s_istore_n (n := 2) (i := 2) X (by decide +kernel) rfl (by decide) rfl (ls_next (by decide) (Or.inr rfl) (ls_next (by decide) (Or.inr rfl) (ls_ins ls_end))) ?_
  exact w2_hiddenAsBits_L4 X hK o ho n (0 : Int32) (0 : Int32) E
-- Net.servedAsBits
def f2_servedAsBits_J47 (K : Ly) (n : Nat) (r4 : Int32 → Int32 → Option (Int32)) (r14 : Int32 → Int32 → Option (Int32)) (x0 : Nat) (x1 : Int32) (x2 : Int32) (x3 : Int32) (s0 : Int32) (h : Hp) : Option (Int32) :=
    if s0 = 0 then (
    lt (x3 + (1 : Int32)) fun x3_9 =>
    r14 x1 x3_9)
    else (
    gd (inb x2 6) <|
    gd (inb x3 6) <|
    bp (f0_begins K n (h.1 (x0 + 11) x2.toNatClampNeg) (h.1 (x0 + 11) x3.toNatClampNeg) h) fun y13 =>
    lt (x3 + (1 : Int32)) fun x3_15 =>
    r14 (if y13 = 0 then x1 else (x1 ||| ((1 : Int32) <<< (x2 &&& 31)))) x3_15)
def f2_servedAsBits_J46 (K : Ly) (n : Nat) (r4 : Int32 → Int32 → Option (Int32)) (r14 : Int32 → Int32 → Option (Int32)) (x0 : Nat) (x1 : Int32) (x2 : Int32) (x3 : Int32) (h : Hp) : Option (Int32) :=
    f2_servedAsBits_J47 K n (r4) (r14) x0 x1 x2 x3 (0 : Int32) h
def f2_servedAsBits_L14 (K : Ly) (n : Nat) (x0 : Nat) (x2 : Int32) (h : Hp) (r4 : Int32 → Int32 → Option (Int32)) : Nat → Int32 → Int32 → Option (Int32)
  | 0, _, _ => none
  | k + 1, x1, x3 =>
    if (h.1 x0 4) ≤ x3 then (
    lt (x2 + (1 : Int32)) fun x2_3 =>
    r4 x1 x2_3)
    else (
    if x3 = x2 then (
    f2_servedAsBits_J46 K n (r4) (f2_servedAsBits_L14 K n x0 x2 h r4 k) x0 x1 x2 x3 h)
    else (
    gd (inb x3 6) <|
    gd (inb x2 6) <|
    f2_servedAsBits_J47 K n (r4) (f2_servedAsBits_L14 K n x0 x2 h r4 k) x0 x1 x2 x3 (if (h.1 (x0 + 10) x3.toNatClampNeg) = (h.1 (x0 + 10) x2.toNatClampNeg) then (1 : Int32) else (0 : Int32)) h))
def f2_servedAsBits_L4 (K : Ly) (n : Nat) (x0 : Nat) (h : Hp)  : Nat → Int32 → Int32 → Option (Int32)
  | 0, _, _ => none
  | k + 1, x1, x2 =>
    if (h.1 x0 4) ≤ x2 then (
    some x1)
    else (
    f2_servedAsBits_L14 K n x0 x2 h (f2_servedAsBits_L4 K n x0 h  k) n x1 (0 : Int32))
def f2_servedAsBits (K : Ly) (n : Nat) (o : Nat) (h : Hp) : Option (Int32) :=
    f2_servedAsBits_L4 K n o h n (0 : Int32) (0 : Int32)
set_option maxHeartbeats 4000000 in
set_option maxRecDepth 20000 in
theorem w2_servedAsBits_J47 {Γ : CT} {sp : Sp} {K : Ly} {sz n : Nat} {v : Int32} {h : Hp}  {r4 : Int32 → Int32 → Option (Int32)} {r14 : Int32 → Int32 → Option (Int32)}  (X : Ok Γ sp prog_7_method_22_code Rc2 5 (some (.int)) 2 (some (.int v)) sz K h) (hK : LyOk K) (x0 : Nat) (x1 : Int32) (x2 : Int32) (x3 : Int32) (s0 : Int32)  (hr4 : ∀ (x1 : Int32) (x2 : Int32), r4 x1 x2 = some v → Go Γ (0, 0) 4 [(0, .ref x0), (1, .int x1), (2, .int x2)] [] sz K h) (hr14 : ∀ (x1 : Int32) (x3 : Int32), r14 x1 x3 = some v → Go Γ (0, 0) 14 [(0, .ref x0), (1, .int x1), (2, .int x2), (3, .int x3)] [] sz K h) (px0 : K x0 = some (.inl 2)) (E : f2_servedAsBits_J47 K n r4 r14 x0 x1 x2 x3 s0 h = some v) : Go Γ (0, 0) 47 [(0, .ref x0), (1, .int x1), (2, .int x2), (3, .int x3)] [.int s0] sz K h := by
  unfold f2_servedAsBits_J47 at E
  refine s_istore (i := 4) X (by decide +kernel) (by decide) rfl (ls_next (by decide) (Or.inr rfl) (ls_next (by decide) (Or.inr rfl) (ls_next (by decide) (Or.inr rfl) (ls_next (by decide) (Or.inr rfl) (ls_ins ls_end))))) ?_
  refine g_iload (n := 4) X (by decide +kernel) 4 rfl ?_
  rcases it_E E with ⟨c8, E⟩ | ⟨c8, E⟩
  · refine g_if_eq_t (off := 27) (tgt := 78) X (by decide +kernel) (by decide) c8 ?_
    obtain ⟨x3_9, ex3_9, E⟩ := lt_E E
    refine s_iinc (i := 3) (n := 1) (y := x3_9) X (by decide +kernel) 3 rfl (by decide) ex3_9 (ls_next (by decide) (Or.inr rfl) (ls_next (by decide) (Or.inr rfl) (ls_next (by decide) (Or.inr rfl) (ls_here (ls_next (by decide) (Or.inr rfl) ls_end))))) ?_
    refine g_goto (off := -67) (tgt := 14) X (by decide +kernel) (by decide) ?_
    refine g_sub [0, 1, 2, 3] rfl ?_
    exact hr14 x1 x3_9  E
  · refine g_if_eq_f (off := 27) (tgt := 78) X (by decide +kernel) (by decide) c8 ?_
    refine g_aload_n (n := 0) X (by decide +kernel) 0 rfl ?_
    refine g_getS X (by decide +kernel) fl2_58 px0 ?_
    refine g_iload_n (n := 2) X (by decide +kernel) 2 rfl ?_
    obtain ⟨c10, E⟩ := gd_E E
    refine g_iald X (by decide +kernel) (ly hK px0 fl2_58 rfl) c10 ?_
    refine g_aload_n (n := 0) X (by decide +kernel) 0 rfl ?_
    refine g_getS X (by decide +kernel) fl2_58 px0 ?_
    refine g_iload_n (n := 3) X (by decide +kernel) 3 rfl ?_
    obtain ⟨c11, E⟩ := gd_E E
    refine g_iald X (by decide +kernel) (ly hK px0 fl2_58 rfl) c11 ?_
    obtain ⟨y13, e12, E⟩ := bp_E E
    refine g_callS1 (st := []) X [.int (h.1 (x0 + 11) x2.toNatClampNeg), .int (h.1 (x0 + 11) x3.toNatClampNeg)] (by decide +kernel) ml2_88 (by decide) (Nat.le_of_ble_eq_true rfl) (c0_begins hK (h.1 (x0 + 11) x2.toNatClampNeg) (h.1 (x0 + 11) x3.toNatClampNeg) h  e12) ?_
    have hJ : Go Γ (0, 0) 78 [(0, .ref x0), (1, .int (if y13 = 0 then x1 else (x1 ||| ((1 : Int32) <<< (x2 &&& 31))))), (2, .int x2), (3, .int x3)] [] sz K h := by
      obtain ⟨x3_15, ex3_15, E⟩ := lt_E E
      refine s_iinc (i := 3) (n := 1) (y := x3_15) X (by decide +kernel) 3 rfl (by decide) ex3_15 (ls_next (by decide) (Or.inr rfl) (ls_next (by decide) (Or.inr rfl) (ls_next (by decide) (Or.inr rfl) (ls_here ls_end)))) ?_
      refine g_goto (off := -67) (tgt := 14) X (by decide +kernel) (by decide) ?_
      exact hr14 (if y13 = 0 then x1 else (x1 ||| ((1 : Int32) <<< (x2 &&& 31)))) x3_15  E
    clear E
    by_cases c14 : y13 = 0
    · rw [if_pos c14] at hJ
      refine g_if_eq_t (off := 9) (tgt := 78) X (by decide +kernel) (by decide) c14 ?_
      refine g_sub [0, 1, 2, 3] rfl ?_
      exact hJ
    · rw [if_neg c14] at hJ
      refine g_if_eq_f (off := 9) (tgt := 78) X (by decide +kernel) (by decide) c14 ?_
      refine g_iload_n (n := 1) X (by decide +kernel) 1 rfl ?_
      refine g_iconst (n := 1) (x := (1 : Int32)) X (by decide +kernel) (by decide) ?_
      refine g_iload_n (n := 2) X (by decide +kernel) 2 rfl ?_
      refine g_ishl X (by decide +kernel) ?_
      refine g_ior X (by decide +kernel) ?_
      refine s_istore_n (n := 1) (i := 1) X (by decide +kernel) rfl (by decide) rfl (ls_next (by decide) (Or.inr rfl) (ls_here (ls_next (by decide) (Or.inr rfl) (ls_next (by decide) (Or.inr rfl) (ls_next (by decide) (Or.inr rfl) ls_end))))) ?_
      refine g_sub [0, 1, 2, 3] rfl ?_
      exact hJ
set_option maxHeartbeats 4000000 in
set_option maxRecDepth 20000 in
theorem w2_servedAsBits_J46 {Γ : CT} {sp : Sp} {K : Ly} {sz n : Nat} {v : Int32} {h : Hp}  {r4 : Int32 → Int32 → Option (Int32)} {r14 : Int32 → Int32 → Option (Int32)}  (X : Ok Γ sp prog_7_method_22_code Rc2 5 (some (.int)) 2 (some (.int v)) sz K h) (hK : LyOk K) (x0 : Nat) (x1 : Int32) (x2 : Int32) (x3 : Int32)  (hr4 : ∀ (x1 : Int32) (x2 : Int32), r4 x1 x2 = some v → Go Γ (0, 0) 4 [(0, .ref x0), (1, .int x1), (2, .int x2)] [] sz K h) (hr14 : ∀ (x1 : Int32) (x3 : Int32), r14 x1 x3 = some v → Go Γ (0, 0) 14 [(0, .ref x0), (1, .int x1), (2, .int x2), (3, .int x3)] [] sz K h) (px0 : K x0 = some (.inl 2)) (E : f2_servedAsBits_J46 K n r4 r14 x0 x1 x2 x3 h = some v) : Go Γ (0, 0) 46 [(0, .ref x0), (1, .int x1), (2, .int x2), (3, .int x3)] [] sz K h := by
  unfold f2_servedAsBits_J46 at E
  refine g_iconst (n := 0) (x := (0 : Int32)) X (by decide +kernel) (by decide) ?_
  exact w2_servedAsBits_J47 X hK x0 x1 x2 x3 (0 : Int32) hr4 hr14 px0 E
set_option maxHeartbeats 4000000 in
set_option maxRecDepth 20000 in
theorem w2_servedAsBits_L14 {Γ : CT} {sp : Sp} {K : Ly} {sz n : Nat} {v : Int32} {h : Hp}  (X : Ok Γ sp prog_7_method_22_code Rc2 5 (some (.int)) 2 (some (.int v)) sz K h) (hK : LyOk K) (x0 : Nat) (x2 : Int32)  {r4 : Int32 → Int32 → Option (Int32)} (px0 : K x0 = some (.inl 2)) (hr4 : ∀ (x1 : Int32) (x2 : Int32), r4 x1 x2 = some v → Go Γ (0, 0) 4 [(0, .ref x0), (1, .int x1), (2, .int x2)] [] sz K h) : ∀ (k : Nat) (x1 : Int32) (x3 : Int32), f2_servedAsBits_L14 K n x0 x2 h r4 k x1 x3 = some v → Go Γ (0, 0) 14 [(0, .ref x0), (1, .int x1), (2, .int x2), (3, .int x3)] [] sz K h := by
  intro k
  induction k with
  | zero => intro x1 x3 E; cases E
  | succ k ih =>
    intro x1 x3 E
    unfold f2_servedAsBits_L14 at E
    refine g_iload_n (n := 3) X (by decide +kernel) 3 rfl ?_
    refine g_aload_n (n := 0) X (by decide +kernel) 0 rfl ?_
    refine g_getI X (by decide +kernel) fl2_24 px0 ?_
    rcases it_E E with ⟨c2, E⟩ | ⟨c2, E⟩
    · refine g_icmp_ge_t (off := 65) (tgt := 84) X (by decide +kernel) (by decide) c2 ?_
      obtain ⟨x2_3, ex2_3, E⟩ := lt_E E
      refine s_iinc (i := 2) (n := 1) (y := x2_3) X (by decide +kernel) 2 rfl (by decide) ex2_3 (ls_next (by decide) (Or.inr rfl) (ls_next (by decide) (Or.inr rfl) (ls_here (ls_next (by decide) (Or.inr rfl) ls_end)))) ?_
      refine g_goto (off := -83) (tgt := 4) X (by decide +kernel) (by decide) ?_
      refine g_sub [0, 1, 2] rfl ?_
      exact hr4 x1 x2_3  E
    · refine g_icmp_ge_f (off := 65) (tgt := 84) X (by decide +kernel) (by decide) c2 ?_
      refine g_iload_n (n := 3) X (by decide +kernel) 3 rfl ?_
      refine g_iload_n (n := 2) X (by decide +kernel) 2 rfl ?_
      rcases it_E E with ⟨c4, E⟩ | ⟨c4, E⟩
      · refine g_icmp_eq_t (off := 22) (tgt := 46) X (by decide +kernel) (by decide) c4 ?_
        exact w2_servedAsBits_J46 X hK x0 x1 x2 x3 hr4 ih px0 E
      · refine g_icmp_eq_f (off := 22) (tgt := 46) X (by decide +kernel) (by decide) c4 ?_
        refine g_aload_n (n := 0) X (by decide +kernel) 0 rfl ?_
        refine g_getS X (by decide +kernel) fl2_55 px0 ?_
        refine g_iload_n (n := 3) X (by decide +kernel) 3 rfl ?_
        obtain ⟨c5, E⟩ := gd_E E
        refine g_iald X (by decide +kernel) (ly hK px0 fl2_55 rfl) c5 ?_
        refine g_aload_n (n := 0) X (by decide +kernel) 0 rfl ?_
        refine g_getS X (by decide +kernel) fl2_55 px0 ?_
        refine g_iload_n (n := 2) X (by decide +kernel) 2 rfl ?_
        obtain ⟨c6, E⟩ := gd_E E
        refine g_iald X (by decide +kernel) (ly hK px0 fl2_55 rfl) c6 ?_
        have hJ : Go Γ (0, 0) 47 [(0, .ref x0), (1, .int x1), (2, .int x2), (3, .int x3)] [.int (if (h.1 (x0 + 10) x3.toNatClampNeg) = (h.1 (x0 + 10) x2.toNatClampNeg) then (1 : Int32) else (0 : Int32))] sz K h := by
          exact w2_servedAsBits_J47 X hK x0 x1 x2 x3 (if (h.1 (x0 + 10) x3.toNatClampNeg) = (h.1 (x0 + 10) x2.toNatClampNeg) then (1 : Int32) else (0 : Int32)) hr4 ih px0 E
        clear E
        by_cases c7 : (h.1 (x0 + 10) x3.toNatClampNeg) = (h.1 (x0 + 10) x2.toNatClampNeg)
        · rw [if_pos c7] at hJ
          refine g_icmp_ne_f (off := 7) (tgt := 46) X (by decide +kernel) (by decide) (fun z => z c7) ?_
          refine g_iconst (n := 1) (x := (1 : Int32)) X (by decide +kernel) (by decide) ?_
          refine g_goto (off := 4) (tgt := 47) X (by decide +kernel) (by decide) ?_
          exact hJ
        · rw [if_neg c7] at hJ
          refine g_icmp_ne_t (off := 7) (tgt := 46) X (by decide +kernel) (by decide) c7 ?_
          refine g_iconst (n := 0) (x := (0 : Int32)) X (by decide +kernel) (by decide) ?_
          exact hJ
set_option maxHeartbeats 4000000 in
set_option maxRecDepth 20000 in
theorem w2_servedAsBits_L4 {Γ : CT} {sp : Sp} {K : Ly} {sz n : Nat} {v : Int32} {h : Hp}  (X : Ok Γ sp prog_7_method_22_code Rc2 5 (some (.int)) 2 (some (.int v)) sz K h) (hK : LyOk K) (x0 : Nat)  (px0 : K x0 = some (.inl 2))  : ∀ (k : Nat) (x1 : Int32) (x2 : Int32), f2_servedAsBits_L4 K n x0 h  k x1 x2 = some v → Go Γ (0, 0) 4 [(0, .ref x0), (1, .int x1), (2, .int x2)] [] sz K h := by
  intro k
  induction k with
  | zero => intro x1 x2 E; cases E
  | succ k ih =>
    intro x1 x2 E
    unfold f2_servedAsBits_L4 at E
    refine g_iload_n (n := 2) X (by decide +kernel) 2 rfl ?_
    refine g_aload_n (n := 0) X (by decide +kernel) 0 rfl ?_
    refine g_getI X (by decide +kernel) fl2_24 px0 ?_
    rcases it_E E with ⟨c1, E⟩ | ⟨c1, E⟩
    · refine g_icmp_ge_t (off := 81) (tgt := 90) X (by decide +kernel) (by decide) c1 ?_
      refine g_iload_n (n := 1) X (by decide +kernel) 1 rfl ?_
      obtain rfl := Option.some.inj E
      exact g_ireturn X (by decide +kernel)
    · refine g_icmp_ge_f (off := 81) (tgt := 90) X (by decide +kernel) (by decide) c1 ?_
      refine g_iconst (n := 0) (x := (0 : Int32)) X (by decide +kernel) (by decide) ?_
      refine s_istore_n (n := 3) (i := 3) X (by decide +kernel) rfl (by decide) rfl (ls_next (by decide) (Or.inr rfl) (ls_next (by decide) (Or.inr rfl) (ls_next (by decide) (Or.inr rfl) (ls_ins ls_end)))) ?_
      exact w2_servedAsBits_L14 X hK x0 x2 px0 ih n x1 (0 : Int32) E
set_option maxHeartbeats 4000000 in
set_option maxRecDepth 20000 in
theorem c2_servedAsBits {sp : Sp} {K : Ly} {sz n : Nat} (hK : LyOk K) (o : Nat) (h : Hp) (ho : K o = some (.inl 2)) {v : Int32} (E : f2_servedAsBits K n o h = some v) : Con sp y2_servedAsBits prog_7_method_22_code 5 (some (.int)) 2 0 0 [.ref o] sz K h (some (.int v)) sz K h := by
  refine Con.of (by decide) (Nat.le_of_ble_eq_true rfl) (fun Γ X _ => ?_)
  show Go Γ (0, 0) 0 [(0, .ref o)] [] sz K h
  unfold f2_servedAsBits at E
  refine g_iconst (n := 0) (x := (0 : Int32)) X (by decide +kernel) (by decide) ?_
  refine s_istore_n (n := 1) (i := 1) X (by decide +kernel) rfl (by decide) rfl (ls_next (by decide) (Or.inr rfl) (ls_ins ls_end)) ?_
  refine g_iconst (n := 0) (x := (0 : Int32)) X (by decide +kernel) (by decide) ?_
  refine s_istore_n (n := 2) (i := 2) X (by decide +kernel) rfl (by decide) rfl (ls_next (by decide) (Or.inr rfl) (ls_next (by decide) (Or.inr rfl) (ls_ins ls_end))) ?_
  exact w2_servedAsBits_L4 X hK o ho n (0 : Int32) (0 : Int32) E
