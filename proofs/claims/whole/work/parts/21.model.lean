-- AskedNamesModel.isName
def f11_isName_J32 (K : Ly) (n : Nat) (r12 : Int32 → Int32 → Option (Int32)) (x2 : Int32) (s0 : Int32) (h : Hp) : Option (Int32) :=
    lt (x2 / (27 : Int32)) fun x2_9 =>
    r12 s0 x2_9
def f11_isName_L12 (K : Ly) (n : Nat)  (h : Hp)  : Nat → Int32 → Int32 → Option (Int32)
  | 0, _, _ => none
  | k + 1, x1, x2 =>
    if x2 ≤ 0 then (
    gd (isB x1) <|
    some x1)
    else (
    if x1 = 0 then (
    gd (isB x1) <|
    some x1)
    else (
    f11_isName_J32 K n (f11_isName_L12 K n h  k) x2 (if (x2 - x2 / (27 : Int32) * (27 : Int32)) = 0 then (0 : Int32) else (1 : Int32)) h))
def f11_isName (K : Ly) (n : Nat) (a0 : Int32) (h : Hp) : Option (Int32) :=
    bp (f11_lettersOf K n a0 h) fun y2 =>
    lt (f11_in y2 (1 : Int32) (4 : Int32)) fun x1_3 =>
    f11_isName_L12 K n h n x1_3 a0
set_option maxHeartbeats 4000000 in
set_option maxRecDepth 20000 in
theorem w11_isName_J32 {Γ : CT} {sp : Sp} {K : Ly} {sz n : Nat} {v : Int32} {h : Hp}  {r12 : Int32 → Int32 → Option (Int32)}  (X : Ok Γ sp prog_13_method_49_code Rc11 3 (some (.boolean)) 2 (some (.int v)) sz K h) (hK : LyOk K) (x2 : Int32) (s0 : Int32)  (hr12 : ∀ (x1 : Int32) (x2 : Int32), r12 x1 x2 = some v → Go Γ (0, 0) 12 [(1, .int x1), (2, .int x2)] [] sz K h)  (E : f11_isName_J32 K n r12 x2 s0 h = some v) : Go Γ (0, 0) 32 [(2, .int x2)] [.int s0] sz K h := by
  unfold f11_isName_J32 at E
  refine s_istore_n (n := 1) (i := 1) X (by decide +kernel) rfl (by decide) rfl (ls_ins (ls_next (by decide) (Or.inr rfl) ls_end)) ?_
  refine g_iload_n (n := 2) X (by decide +kernel) 1 rfl ?_
  refine g_bipush (n := 27) (x := (27 : Int32)) X (by decide +kernel) (by decide) ?_
  refine g_idiv X (by decide +kernel) (by decide) ?_
  obtain ⟨x2_9, ex2_9, E⟩ := lt_E E
  refine s_istore_n (n := 2) (i := 2) X (by decide +kernel) rfl (by decide) ex2_9 (ls_next (by decide) (Or.inr rfl) (ls_here ls_end)) ?_
  refine g_goto (off := -26) (tgt := 12) X (by decide +kernel) (by decide) ?_
  exact hr12 s0 x2_9  E
set_option maxHeartbeats 4000000 in
set_option maxRecDepth 20000 in
theorem w11_isName_L12 {Γ : CT} {sp : Sp} {K : Ly} {sz n : Nat} {v : Int32} {h : Hp}  (X : Ok Γ sp prog_13_method_49_code Rc11 3 (some (.boolean)) 2 (some (.int v)) sz K h) (hK : LyOk K)     : ∀ (k : Nat) (x1 : Int32) (x2 : Int32), f11_isName_L12 K n h  k x1 x2 = some v → Go Γ (0, 0) 12 [(1, .int x1), (2, .int x2)] [] sz K h := by
  intro k
  induction k with
  | zero => intro x1 x2 E; cases E
  | succ k ih =>
    intro x1 x2 E
    unfold f11_isName_L12 at E
    refine g_iload_n (n := 2) X (by decide +kernel) 1 rfl ?_
    rcases it_E E with ⟨c4, E⟩ | ⟨c4, E⟩
    · refine g_if_le_t (off := 28) (tgt := 41) X (by decide +kernel) (by decide) c4 ?_
      refine g_iload_n (n := 1) X (by decide +kernel) 0 rfl ?_
      obtain ⟨c5, E⟩ := gd_E E
      obtain rfl := Option.some.inj E
      exact g_zreturn X (by decide +kernel) (isB_n c5)
    · refine g_if_le_f (off := 28) (tgt := 41) X (by decide +kernel) (by decide) c4 ?_
      refine g_iload_n (n := 1) X (by decide +kernel) 0 rfl ?_
      rcases it_E E with ⟨c6, E⟩ | ⟨c6, E⟩
      · refine g_if_eq_t (off := 24) (tgt := 41) X (by decide +kernel) (by decide) c6 ?_
        refine g_iload_n (n := 1) X (by decide +kernel) 0 rfl ?_
        obtain ⟨c7, E⟩ := gd_E E
        obtain rfl := Option.some.inj E
        exact g_zreturn X (by decide +kernel) (isB_n c7)
      · refine g_if_eq_f (off := 24) (tgt := 41) X (by decide +kernel) (by decide) c6 ?_
        refine g_iload_n (n := 2) X (by decide +kernel) 1 rfl ?_
        refine g_bipush (n := 27) (x := (27 : Int32)) X (by decide +kernel) (by decide) ?_
        refine g_irem X (by decide +kernel) (by decide) ?_
        have hJ : Go Γ (0, 0) 32 [(2, .int x2)] [.int (if (x2 - x2 / (27 : Int32) * (27 : Int32)) = 0 then (0 : Int32) else (1 : Int32))] sz K h := by
          exact w11_isName_J32 X hK x2 (if (x2 - x2 / (27 : Int32) * (27 : Int32)) = 0 then (0 : Int32) else (1 : Int32)) ih E
        clear E
        by_cases c8 : (x2 - x2 / (27 : Int32) * (27 : Int32)) = 0
        · rw [if_pos c8] at hJ
          refine g_if_eq_t (off := 7) (tgt := 31) X (by decide +kernel) (by decide) c8 ?_
          refine g_iconst (n := 0) (x := (0 : Int32)) X (by decide +kernel) (by decide) ?_
          refine g_sub [1] rfl ?_
          exact hJ
        · rw [if_neg c8] at hJ
          refine g_if_eq_f (off := 7) (tgt := 31) X (by decide +kernel) (by decide) c8 ?_
          refine g_iconst (n := 1) (x := (1 : Int32)) X (by decide +kernel) (by decide) ?_
          refine g_goto (off := 4) (tgt := 32) X (by decide +kernel) (by decide) ?_
          refine g_sub [1] rfl ?_
          exact hJ
set_option maxHeartbeats 4000000 in
set_option maxRecDepth 20000 in
theorem c11_isName {sp : Sp} {K : Ly} {sz n : Nat} (hK : LyOk K) (a0 : Int32) (h : Hp)  {v : Int32} (E : f11_isName K n a0 h = some v) : Con sp y11_isName prog_13_method_49_code 3 (some (.boolean)) 2 0 0 [.int a0] sz K h (some (.int v)) sz K h := by
  refine Con.of (by decide) (Nat.le_of_ble_eq_true rfl) (fun Γ X _ => ?_)
  show Go Γ (0, 0) 0 [(0, .int a0)] [] sz K h
  unfold f11_isName at E
  refine g_iload_n (n := 0) X (by decide +kernel) 0 rfl ?_
  obtain ⟨y2, e1, E⟩ := bp_E E
  refine g_callS1 (st := []) X [.int a0] (by decide +kernel) ml11_354 (by decide) (Nat.le_of_ble_eq_true rfl) (c11_lettersOf hK a0 h  e1) ?_
  refine g_iconst (n := 1) (x := (1 : Int32)) X (by decide +kernel) (by decide) ?_
  refine g_iconst (n := 4) (x := (4 : Int32)) X (by decide +kernel) (by decide) ?_
  refine g_callS1 (st := []) X [.int y2, .int (1 : Int32), .int (4 : Int32)] (by decide +kernel) ml11_181 (by decide) (Nat.le_of_ble_eq_true rfl) (c11_in hK y2 (1 : Int32) (4 : Int32) h ) ?_
  obtain ⟨x1_3, ex1_3, E⟩ := lt_E E
  refine s_istore_n (n := 1) (i := 1) X (by decide +kernel) rfl (by decide) ex1_3 (ls_next (by decide) (Or.inr rfl) (ls_ins ls_end)) ?_
  refine g_iload_n (n := 0) X (by decide +kernel) 0 rfl ?_
  refine s_istore_n (n := 2) (i := 2) X (by decide +kernel) rfl (by decide) rfl (ls_next (by decide) (Or.inr rfl) (ls_next (by decide) (Or.inr rfl) (ls_ins ls_end))) ?_
  refine g_sub [1, 2] rfl ?_
  exact w11_isName_L12 X hK  n x1_3 a0 E
-- AskedNamesModel.longestAt
def f11_longestAt_J69 (K : Ly) (n : Nat) (r5 : Int32 → Int32 → Option (Int32)) (x0 : Nat) (x1 : Int32) (x2 : Int32) (x4 : Int32) (s0 : Int32) (h : Hp) : Option (Int32) :=
    lt (x4 + (1 : Int32)) fun x4_17 =>
    r5 s0 x4_17
def f11_longestAt_J44 (K : Ly) (n : Nat) (r5 : Int32 → Int32 → Option (Int32)) (x0 : Nat) (x1 : Int32) (x2 : Int32) (x3 : Int32) (x4 : Int32) (s0 : Int32) (h : Hp) : Option (Int32) :=
    if s0 = 0 then (
    f11_longestAt_J69 K n (r5) x0 x1 x2 x4 x3 h)
    else (
    bp (f11_routeAt K n x0 x4 (1 : Int32) h) fun y14 =>
    bp (f11_lettersOf K n y14 h) fun y16 =>
    f11_longestAt_J69 K n (r5) x0 x1 x2 x4 (f11_greater x3 y16) h)
def f11_longestAt_J43 (K : Ly) (n : Nat) (r5 : Int32 → Int32 → Option (Int32)) (x0 : Nat) (x1 : Int32) (x2 : Int32) (x3 : Int32) (x4 : Int32) (h : Hp) : Option (Int32) :=
    f11_longestAt_J44 K n (r5) x0 x1 x2 x3 x4 (0 : Int32) h
def f11_longestAt_L5 (K : Ly) (n : Nat) (x0 : Nat) (x1 : Int32) (x2 : Int32) (h : Hp)  : Nat → Int32 → Int32 → Option (Int32)
  | 0, _, _ => none
  | k + 1, x3, x4 =>
    bp (f11_routes K n x0 h) fun y2 =>
    if y2 ≤ x4 then (
    some x3)
    else (
    bp (f11_routeAt K n x0 x4 (0 : Int32) h) fun y5 =>
    if y5 = x1 then (
    bp (f11_routeAt K n x0 x4 (1 : Int32) h) fun y8 =>
    bp (f11_isBeginning K n y8 x2 h) fun y10 =>
    f11_longestAt_J44 K n (f11_longestAt_L5 K n x0 x1 x2 h  k) x0 x1 x2 x3 x4 (if y10 = 0 then (0 : Int32) else (1 : Int32)) h)
    else (
    f11_longestAt_J43 K n (f11_longestAt_L5 K n x0 x1 x2 h  k) x0 x1 x2 x3 x4 h))
def f11_longestAt (K : Ly) (n : Nat) (o : Nat) (a1 : Int32) (a2 : Int32) (h : Hp) : Option (Int32) :=
    f11_longestAt_L5 K n o a1 a2 h n (0 : Int32) (0 : Int32)
set_option maxHeartbeats 4000000 in
set_option maxRecDepth 20000 in
theorem w11_longestAt_J69 {Γ : CT} {sp : Sp} {K : Ly} {sz n : Nat} {v : Int32} {h : Hp}  {r5 : Int32 → Int32 → Option (Int32)}  (X : Ok Γ sp prog_13_method_50_code Rc11 6 (some (.int)) 3 (some (.int v)) sz K h) (hK : LyOk K) (x0 : Nat) (x1 : Int32) (x2 : Int32) (x4 : Int32) (s0 : Int32)  (hr5 : ∀ (x3 : Int32) (x4 : Int32), r5 x3 x4 = some v → Go Γ (0, 0) 5 [(0, .ref x0), (1, .int x1), (2, .int x2), (3, .int x3), (4, .int x4)] [] sz K h) (px0 : K x0 = some (.inl 11)) (E : f11_longestAt_J69 K n r5 x0 x1 x2 x4 s0 h = some v) : Go Γ (0, 0) 69 [(0, .ref x0), (1, .int x1), (2, .int x2), (4, .int x4)] [.int s0] sz K h := by
  unfold f11_longestAt_J69 at E
  refine s_istore_n (n := 3) (i := 3) X (by decide +kernel) rfl (by decide) rfl (ls_next (by decide) (Or.inr rfl) (ls_next (by decide) (Or.inr rfl) (ls_next (by decide) (Or.inr rfl) (ls_ins (ls_next (by decide) (Or.inr rfl) ls_end))))) ?_
  obtain ⟨x4_17, ex4_17, E⟩ := lt_E E
  refine s_iinc (i := 4) (n := 1) (y := x4_17) X (by decide +kernel) 4 rfl (by decide) ex4_17 (ls_next (by decide) (Or.inr rfl) (ls_next (by decide) (Or.inr rfl) (ls_next (by decide) (Or.inr rfl) (ls_next (by decide) (Or.inr rfl) (ls_here ls_end))))) ?_
  refine g_goto (off := -68) (tgt := 5) X (by decide +kernel) (by decide) ?_
  exact hr5 s0 x4_17  E
set_option maxHeartbeats 4000000 in
set_option maxRecDepth 20000 in
theorem w11_longestAt_J44 {Γ : CT} {sp : Sp} {K : Ly} {sz n : Nat} {v : Int32} {h : Hp}  {r5 : Int32 → Int32 → Option (Int32)}  (X : Ok Γ sp prog_13_method_50_code Rc11 6 (some (.int)) 3 (some (.int v)) sz K h) (hK : LyOk K) (x0 : Nat) (x1 : Int32) (x2 : Int32) (x3 : Int32) (x4 : Int32) (s0 : Int32)  (hr5 : ∀ (x3 : Int32) (x4 : Int32), r5 x3 x4 = some v → Go Γ (0, 0) 5 [(0, .ref x0), (1, .int x1), (2, .int x2), (3, .int x3), (4, .int x4)] [] sz K h) (px0 : K x0 = some (.inl 11)) (E : f11_longestAt_J44 K n r5 x0 x1 x2 x3 x4 s0 h = some v) : Go Γ (0, 0) 44 [(0, .ref x0), (1, .int x1), (2, .int x2), (3, .int x3), (4, .int x4)] [.int s0] sz K h := by
  unfold f11_longestAt_J44 at E
  refine s_istore (i := 5) X (by decide +kernel) (by decide) rfl (ls_next (by decide) (Or.inr rfl) (ls_next (by decide) (Or.inr rfl) (ls_next (by decide) (Or.inr rfl) (ls_next (by decide) (Or.inr rfl) (ls_next (by decide) (Or.inr rfl) (ls_ins ls_end)))))) ?_
  refine g_iload (n := 5) X (by decide +kernel) 5 rfl ?_
  rcases it_E E with ⟨c12, E⟩ | ⟨c12, E⟩
  · refine g_if_eq_t (off := 20) (tgt := 68) X (by decide +kernel) (by decide) c12 ?_
    refine g_iload_n (n := 3) X (by decide +kernel) 3 rfl ?_
    refine g_sub [0, 1, 2, 4] rfl ?_
    exact w11_longestAt_J69 X hK x0 x1 x2 x4 x3 hr5 px0 E
  · refine g_if_eq_f (off := 20) (tgt := 68) X (by decide +kernel) (by decide) c12 ?_
    refine g_iload_n (n := 3) X (by decide +kernel) 3 rfl ?_
    refine g_aload_n (n := 0) X (by decide +kernel) 0 rfl ?_
    refine g_iload (n := 4) X (by decide +kernel) 4 rfl ?_
    refine g_iconst (n := 1) (x := (1 : Int32)) X (by decide +kernel) (by decide) ?_
    obtain ⟨y14, e13, E⟩ := bp_E E
    refine g_callV1 (st := [.int x3]) X [.int x4, .int (1 : Int32)] (by decide +kernel) ml11_360 px0 rfl rfl (by decide) (Nat.le_of_ble_eq_true rfl) (c11_routeAt hK x0 x4 (1 : Int32) h px0 e13) ?_
    obtain ⟨y16, e15, E⟩ := bp_E E
    refine g_callS1 (st := [.int x3]) X [.int y14] (by decide +kernel) ml11_354 (by decide) (Nat.le_of_ble_eq_true rfl) (c11_lettersOf hK y14 h  e15) ?_
    refine g_callS1 (st := []) X [.int x3, .int y16] (by decide +kernel) ml11_243 (by decide) (Nat.le_of_ble_eq_true rfl) (c11_greater hK x3 y16 h ) ?_
    refine g_goto (off := 4) (tgt := 69) X (by decide +kernel) (by decide) ?_
    refine g_sub [0, 1, 2, 4] rfl ?_
    exact w11_longestAt_J69 X hK x0 x1 x2 x4 (f11_greater x3 y16) hr5 px0 E
set_option maxHeartbeats 4000000 in
set_option maxRecDepth 20000 in
theorem w11_longestAt_J43 {Γ : CT} {sp : Sp} {K : Ly} {sz n : Nat} {v : Int32} {h : Hp}  {r5 : Int32 → Int32 → Option (Int32)}  (X : Ok Γ sp prog_13_method_50_code Rc11 6 (some (.int)) 3 (some (.int v)) sz K h) (hK : LyOk K) (x0 : Nat) (x1 : Int32) (x2 : Int32) (x3 : Int32) (x4 : Int32)  (hr5 : ∀ (x3 : Int32) (x4 : Int32), r5 x3 x4 = some v → Go Γ (0, 0) 5 [(0, .ref x0), (1, .int x1), (2, .int x2), (3, .int x3), (4, .int x4)] [] sz K h) (px0 : K x0 = some (.inl 11)) (E : f11_longestAt_J43 K n r5 x0 x1 x2 x3 x4 h = some v) : Go Γ (0, 0) 43 [(0, .ref x0), (1, .int x1), (2, .int x2), (3, .int x3), (4, .int x4)] [] sz K h := by
  unfold f11_longestAt_J43 at E
  refine g_iconst (n := 0) (x := (0 : Int32)) X (by decide +kernel) (by decide) ?_
  exact w11_longestAt_J44 X hK x0 x1 x2 x3 x4 (0 : Int32) hr5 px0 E
set_option maxHeartbeats 4000000 in
set_option maxRecDepth 20000 in
theorem w11_longestAt_L5 {Γ : CT} {sp : Sp} {K : Ly} {sz n : Nat} {v : Int32} {h : Hp}  (X : Ok Γ sp prog_13_method_50_code Rc11 6 (some (.int)) 3 (some (.int v)) sz K h) (hK : LyOk K) (x0 : Nat) (x1 : Int32) (x2 : Int32)  (px0 : K x0 = some (.inl 11))  : ∀ (k : Nat) (x3 : Int32) (x4 : Int32), f11_longestAt_L5 K n x0 x1 x2 h  k x3 x4 = some v → Go Γ (0, 0) 5 [(0, .ref x0), (1, .int x1), (2, .int x2), (3, .int x3), (4, .int x4)] [] sz K h := by
  intro k
  induction k with
  | zero => intro x3 x4 E; cases E
  | succ k ih =>
    intro x3 x4 E
    unfold f11_longestAt_L5 at E
    refine g_iload (n := 4) X (by decide +kernel) 4 rfl ?_
    refine g_aload_n (n := 0) X (by decide +kernel) 0 rfl ?_
    obtain ⟨y2, e1, E⟩ := bp_E E
    refine g_callV1 (st := [.int x4]) X [] (by decide +kernel) ml11_357 px0 rfl rfl (by decide) (Nat.le_of_ble_eq_true rfl) (c11_routes hK x0 h px0 e1) ?_
    rcases it_E E with ⟨c3, E⟩ | ⟨c3, E⟩
    · refine g_icmp_ge_t (off := 65) (tgt := 76) X (by decide +kernel) (by decide) c3 ?_
      refine g_iload_n (n := 3) X (by decide +kernel) 3 rfl ?_
      obtain rfl := Option.some.inj E
      exact g_ireturn X (by decide +kernel)
    · refine g_icmp_ge_f (off := 65) (tgt := 76) X (by decide +kernel) (by decide) c3 ?_
      refine g_aload_n (n := 0) X (by decide +kernel) 0 rfl ?_
      refine g_iload (n := 4) X (by decide +kernel) 4 rfl ?_
      refine g_iconst (n := 0) (x := (0 : Int32)) X (by decide +kernel) (by decide) ?_
      obtain ⟨y5, e4, E⟩ := bp_E E
      refine g_callV1 (st := []) X [.int x4, .int (0 : Int32)] (by decide +kernel) ml11_360 px0 rfl rfl (by decide) (Nat.le_of_ble_eq_true rfl) (c11_routeAt hK x0 x4 (0 : Int32) h px0 e4) ?_
      refine g_iload_n (n := 1) X (by decide +kernel) 1 rfl ?_
      rcases it_E E with ⟨c6, E⟩ | ⟨c6, E⟩
      · refine g_icmp_ne_f (off := 21) (tgt := 43) X (by decide +kernel) (by decide) (fun z => z c6) ?_
        refine g_aload_n (n := 0) X (by decide +kernel) 0 rfl ?_
        refine g_iload (n := 4) X (by decide +kernel) 4 rfl ?_
        refine g_iconst (n := 1) (x := (1 : Int32)) X (by decide +kernel) (by decide) ?_
        obtain ⟨y8, e7, E⟩ := bp_E E
        refine g_callV1 (st := []) X [.int x4, .int (1 : Int32)] (by decide +kernel) ml11_360 px0 rfl rfl (by decide) (Nat.le_of_ble_eq_true rfl) (c11_routeAt hK x0 x4 (1 : Int32) h px0 e7) ?_
        refine g_iload_n (n := 2) X (by decide +kernel) 2 rfl ?_
        obtain ⟨y10, e9, E⟩ := bp_E E
        refine g_callS1 (st := []) X [.int y8, .int x2] (by decide +kernel) ml11_363 (by decide) (Nat.le_of_ble_eq_true rfl) (c11_isBeginning hK y8 x2 h  e9) ?_
        have hJ : Go Γ (0, 0) 44 [(0, .ref x0), (1, .int x1), (2, .int x2), (3, .int x3), (4, .int x4)] [.int (if y10 = 0 then (0 : Int32) else (1 : Int32))] sz K h := by
          exact w11_longestAt_J44 X hK x0 x1 x2 x3 x4 (if y10 = 0 then (0 : Int32) else (1 : Int32)) ih px0 E
        clear E
        by_cases c11 : y10 = 0
        · rw [if_pos c11] at hJ
          refine g_if_eq_t (off := 7) (tgt := 43) X (by decide +kernel) (by decide) c11 ?_
          refine g_iconst (n := 0) (x := (0 : Int32)) X (by decide +kernel) (by decide) ?_
          exact hJ
        · rw [if_neg c11] at hJ
          refine g_if_eq_f (off := 7) (tgt := 43) X (by decide +kernel) (by decide) c11 ?_
          refine g_iconst (n := 1) (x := (1 : Int32)) X (by decide +kernel) (by decide) ?_
          refine g_goto (off := 4) (tgt := 44) X (by decide +kernel) (by decide) ?_
          exact hJ
      · refine g_icmp_ne_t (off := 21) (tgt := 43) X (by decide +kernel) (by decide) c6 ?_
        exact w11_longestAt_J43 X hK x0 x1 x2 x3 x4 ih px0 E
set_option maxHeartbeats 4000000 in
set_option maxRecDepth 20000 in
theorem c11_longestAt {sp : Sp} {K : Ly} {sz n : Nat} (hK : LyOk K) (o : Nat) (a1 : Int32) (a2 : Int32) (h : Hp) (ho : K o = some (.inl 11)) {v : Int32} (E : f11_longestAt K n o a1 a2 h = some v) : Con sp y11_longestAt prog_13_method_50_code 6 (some (.int)) 3 0 0 [.ref o, .int a1, .int a2] sz K h (some (.int v)) sz K h := by
  refine Con.of (by decide) (Nat.le_of_ble_eq_true rfl) (fun Γ X _ => ?_)
  show Go Γ (0, 0) 0 [(0, .ref o), (1, .int a1), (2, .int a2)] [] sz K h
  unfold f11_longestAt at E
  refine g_iconst (n := 0) (x := (0 : Int32)) X (by decide +kernel) (by decide) ?_
  refine s_istore_n (n := 3) (i := 3) X (by decide +kernel) rfl (by decide) rfl (ls_next (by decide) (Or.inr rfl) (ls_next (by decide) (Or.inr rfl) (ls_next (by decide) (Or.inr rfl) (ls_ins ls_end)))) ?_
  refine g_iconst (n := 0) (x := (0 : Int32)) X (by decide +kernel) (by decide) ?_
  refine s_istore (i := 4) X (by decide +kernel) (by decide) rfl (ls_next (by decide) (Or.inr rfl) (ls_next (by decide) (Or.inr rfl) (ls_next (by decide) (Or.inr rfl) (ls_next (by decide) (Or.inr rfl) (ls_ins ls_end))))) ?_
  exact w11_longestAt_L5 X hK o a1 a2 ho n (0 : Int32) (0 : Int32) E
-- AskedNamesModel.isRoute
def f11_isRoute (K : Ly) (n : Nat) (o : Nat) (a1 : Int32) (a2 : Int32) (a3 : Int32) (a4 : Int32) (h : Hp) : Option (Int32) :=
    bp (f11_routeAt K n o a1 (0 : Int32) h) fun y2 =>
    if y2 = a2 then (
    bp (f11_routeAt K n o a1 (1 : Int32) h) fun y5 =>
    bp (f11_lettersOf K n y5 h) fun y7 =>
    if y7 = a4 then (
    bp (f11_routeAt K n o a1 (1 : Int32) h) fun y10 =>
    bp (f11_isBeginning K n y10 a3 h) fun y12 =>
    some (if y12 = 0 then (0 : Int32) else (1 : Int32)))
    else (
    some (0 : Int32)))
    else (
    some (0 : Int32))
set_option maxHeartbeats 4000000 in
set_option maxRecDepth 20000 in
theorem c11_isRoute {sp : Sp} {K : Ly} {sz n : Nat} (hK : LyOk K) (o : Nat) (a1 : Int32) (a2 : Int32) (a3 : Int32) (a4 : Int32) (h : Hp) (ho : K o = some (.inl 11)) {v : Int32} (E : f11_isRoute K n o a1 a2 a3 a4 h = some v) : Con sp y11_isRoute prog_13_method_51_code 5 (some (.boolean)) 3 0 0 [.ref o, .int a1, .int a2, .int a3, .int a4] sz K h (some (.int v)) sz K h := by
  refine Con.of (by decide) (Nat.le_of_ble_eq_true rfl) (fun Γ X _ => ?_)
  show Go Γ (0, 0) 0 [(0, .ref o), (1, .int a1), (2, .int a2), (3, .int a3), (4, .int a4)] [] sz K h
  unfold f11_isRoute at E
  refine g_aload_n (n := 0) X (by decide +kernel) 0 rfl ?_
  refine g_iload_n (n := 1) X (by decide +kernel) 1 rfl ?_
  refine g_iconst (n := 0) (x := (0 : Int32)) X (by decide +kernel) (by decide) ?_
  obtain ⟨y2, e1, E⟩ := bp_E E
  refine g_callV1 (st := []) X [.int a1, .int (0 : Int32)] (by decide +kernel) ml11_360 ho rfl rfl (by decide) (Nat.le_of_ble_eq_true rfl) (c11_routeAt hK o a1 (0 : Int32) h ho e1) ?_
  refine g_iload_n (n := 2) X (by decide +kernel) 2 rfl ?_
  rcases it_E E with ⟨c3, E⟩ | ⟨c3, E⟩
  · refine g_icmp_ne_f (off := 34) (tgt := 41) X (by decide +kernel) (by decide) (fun z => z c3) ?_
    refine g_aload_n (n := 0) X (by decide +kernel) 0 rfl ?_
    refine g_iload_n (n := 1) X (by decide +kernel) 1 rfl ?_
    refine g_iconst (n := 1) (x := (1 : Int32)) X (by decide +kernel) (by decide) ?_
    obtain ⟨y5, e4, E⟩ := bp_E E
    refine g_callV1 (st := []) X [.int a1, .int (1 : Int32)] (by decide +kernel) ml11_360 ho rfl rfl (by decide) (Nat.le_of_ble_eq_true rfl) (c11_routeAt hK o a1 (1 : Int32) h ho e4) ?_
    obtain ⟨y7, e6, E⟩ := bp_E E
    refine g_callS1 (st := []) X [.int y5] (by decide +kernel) ml11_354 (by decide) (Nat.le_of_ble_eq_true rfl) (c11_lettersOf hK y5 h  e6) ?_
    refine g_iload (n := 4) X (by decide +kernel) 4 rfl ?_
    rcases it_E E with ⟨c8, E⟩ | ⟨c8, E⟩
    · refine g_icmp_ne_f (off := 20) (tgt := 41) X (by decide +kernel) (by decide) (fun z => z c8) ?_
      refine g_aload_n (n := 0) X (by decide +kernel) 0 rfl ?_
      refine g_iload_n (n := 1) X (by decide +kernel) 1 rfl ?_
      refine g_iconst (n := 1) (x := (1 : Int32)) X (by decide +kernel) (by decide) ?_
      obtain ⟨y10, e9, E⟩ := bp_E E
      refine g_callV1 (st := []) X [.int a1, .int (1 : Int32)] (by decide +kernel) ml11_360 ho rfl rfl (by decide) (Nat.le_of_ble_eq_true rfl) (c11_routeAt hK o a1 (1 : Int32) h ho e9) ?_
      refine g_iload_n (n := 3) X (by decide +kernel) 3 rfl ?_
      obtain ⟨y12, e11, E⟩ := bp_E E
      refine g_callS1 (st := []) X [.int y10, .int a3] (by decide +kernel) ml11_363 (by decide) (Nat.le_of_ble_eq_true rfl) (c11_isBeginning hK y10 a3 h  e11) ?_
      have hJ : Go Γ (0, 0) 42 [] [.int (if y12 = 0 then (0 : Int32) else (1 : Int32))] sz K h := by
        obtain rfl := Option.some.inj E
        exact g_zreturn X (by decide +kernel) (by (repeat' split) <;> rfl)
      clear E
      by_cases c13 : y12 = 0
      · rw [if_pos c13] at hJ
        refine g_if_eq_t (off := 7) (tgt := 41) X (by decide +kernel) (by decide) c13 ?_
        refine g_iconst (n := 0) (x := (0 : Int32)) X (by decide +kernel) (by decide) ?_
        refine g_sub [] rfl ?_
        exact hJ
      · rw [if_neg c13] at hJ
        refine g_if_eq_f (off := 7) (tgt := 41) X (by decide +kernel) (by decide) c13 ?_
        refine g_iconst (n := 1) (x := (1 : Int32)) X (by decide +kernel) (by decide) ?_
        refine g_goto (off := 4) (tgt := 42) X (by decide +kernel) (by decide) ?_
        refine g_sub [] rfl ?_
        exact hJ
    · refine g_icmp_ne_t (off := 20) (tgt := 41) X (by decide +kernel) (by decide) c8 ?_
      refine g_iconst (n := 0) (x := (0 : Int32)) X (by decide +kernel) (by decide) ?_
      obtain rfl := Option.some.inj E
      exact g_zreturn X (by decide +kernel) rfl
  · refine g_icmp_ne_t (off := 34) (tgt := 41) X (by decide +kernel) (by decide) c3 ?_
    refine g_iconst (n := 0) (x := (0 : Int32)) X (by decide +kernel) (by decide) ?_
    obtain rfl := Option.some.inj E
    exact g_zreturn X (by decide +kernel) rfl
-- AskedNamesModel.serveFor
def f11_serveFor_J84 (K : Ly) (n : Nat) (r5 : Int32 → Int32 → Option (Int32)) (x0 : Nat) (x1 : Int32) (x2 : Int32) (x4 : Int32) (s0 : Int32) (h : Hp) : Option (Int32) :=
    lt (x4 + (1 : Int32)) fun x4_23 =>
    r5 s0 x4_23
def f11_serveFor_J78 (K : Ly) (n : Nat) (r5 : Int32 → Int32 → Option (Int32)) (x0 : Nat) (x1 : Int32) (x2 : Int32) (x4 : Int32) (h : Hp) : Option (Int32) :=
    f11_serveFor_J84 K n (r5) x0 x1 x2 x4 x4 h
def f11_serveFor_J83 (K : Ly) (n : Nat) (r5 : Int32 → Int32 → Option (Int32)) (x0 : Nat) (x1 : Int32) (x2 : Int32) (x3 : Int32) (x4 : Int32) (h : Hp) : Option (Int32) :=
    f11_serveFor_J84 K n (r5) x0 x1 x2 x4 x3 h
def f11_serveFor_J44 (K : Ly) (n : Nat) (r5 : Int32 → Int32 → Option (Int32)) (x0 : Nat) (x1 : Int32) (x2 : Int32) (x3 : Int32) (x4 : Int32) (s0 : Int32) (h : Hp) : Option (Int32) :=
    if s0 = 0 then (
    f11_serveFor_J83 K n (r5) x0 x1 x2 x3 x4 h)
    else (
    if x3 = (-1 : Int32) then (
    f11_serveFor_J78 K n (r5) x0 x1 x2 x4 h)
    else (
    bp (f11_serveAt K n x0 x4 (1 : Int32) h) fun y15 =>
    bp (f11_lettersOf K n y15 h) fun y17 =>
    bp (f11_serveAt K n x0 x3 (1 : Int32) h) fun y19 =>
    bp (f11_lettersOf K n y19 h) fun y21 =>
    f11_serveFor_J84 K n (r5) x0 x1 x2 x4 (if y17 ≤ y21 then x3 else x4) h))
def f11_serveFor_J43 (K : Ly) (n : Nat) (r5 : Int32 → Int32 → Option (Int32)) (x0 : Nat) (x1 : Int32) (x2 : Int32) (x3 : Int32) (x4 : Int32) (h : Hp) : Option (Int32) :=
    f11_serveFor_J44 K n (r5) x0 x1 x2 x3 x4 (0 : Int32) h
def f11_serveFor_L5 (K : Ly) (n : Nat) (x0 : Nat) (x1 : Int32) (x2 : Int32) (h : Hp)  : Nat → Int32 → Int32 → Option (Int32)
  | 0, _, _ => none
  | k + 1, x3, x4 =>
    bp (f11_serves K n x0 h) fun y2 =>
    if y2 ≤ x4 then (
    some x3)
    else (
    bp (f11_serveAt K n x0 x4 (0 : Int32) h) fun y5 =>
    if y5 = x1 then (
    bp (f11_serveAt K n x0 x4 (1 : Int32) h) fun y8 =>
    bp (f11_isBeginning K n y8 x2 h) fun y10 =>
    f11_serveFor_J44 K n (f11_serveFor_L5 K n x0 x1 x2 h  k) x0 x1 x2 x3 x4 (if y10 = 0 then (0 : Int32) else (1 : Int32)) h)
    else (
    f11_serveFor_J43 K n (f11_serveFor_L5 K n x0 x1 x2 h  k) x0 x1 x2 x3 x4 h))
def f11_serveFor (K : Ly) (n : Nat) (o : Nat) (a1 : Int32) (a2 : Int32) (h : Hp) : Option (Int32) :=
    f11_serveFor_L5 K n o a1 a2 h n (-1 : Int32) (0 : Int32)
set_option maxHeartbeats 4000000 in
set_option maxRecDepth 20000 in
theorem w11_serveFor_J84 {Γ : CT} {sp : Sp} {K : Ly} {sz n : Nat} {v : Int32} {h : Hp}  {r5 : Int32 → Int32 → Option (Int32)}  (X : Ok Γ sp prog_13_method_52_code Rc11 6 (some (.int)) 3 (some (.int v)) sz K h) (hK : LyOk K) (x0 : Nat) (x1 : Int32) (x2 : Int32) (x4 : Int32) (s0 : Int32)  (hr5 : ∀ (x3 : Int32) (x4 : Int32), r5 x3 x4 = some v → Go Γ (0, 0) 5 [(0, .ref x0), (1, .int x1), (2, .int x2), (3, .int x3), (4, .int x4)] [] sz K h) (px0 : K x0 = some (.inl 11)) (E : f11_serveFor_J84 K n r5 x0 x1 x2 x4 s0 h = some v) : Go Γ (0, 0) 84 [(0, .ref x0), (1, .int x1), (2, .int x2), (4, .int x4)] [.int s0] sz K h := by
  unfold f11_serveFor_J84 at E
  refine s_istore_n (n := 3) (i := 3) X (by decide +kernel) rfl (by decide) rfl (ls_next (by decide) (Or.inr rfl) (ls_next (by decide) (Or.inr rfl) (ls_next (by decide) (Or.inr rfl) (ls_ins (ls_next (by decide) (Or.inr rfl) ls_end))))) ?_
  obtain ⟨x4_23, ex4_23, E⟩ := lt_E E
  refine s_iinc (i := 4) (n := 1) (y := x4_23) X (by decide +kernel) 4 rfl (by decide) ex4_23 (ls_next (by decide) (Or.inr rfl) (ls_next (by decide) (Or.inr rfl) (ls_next (by decide) (Or.inr rfl) (ls_next (by decide) (Or.inr rfl) (ls_here ls_end))))) ?_
  refine g_goto (off := -83) (tgt := 5) X (by decide +kernel) (by decide) ?_
  exact hr5 s0 x4_23  E
set_option maxHeartbeats 4000000 in
set_option maxRecDepth 20000 in
theorem w11_serveFor_J78 {Γ : CT} {sp : Sp} {K : Ly} {sz n : Nat} {v : Int32} {h : Hp}  {r5 : Int32 → Int32 → Option (Int32)}  (X : Ok Γ sp prog_13_method_52_code Rc11 6 (some (.int)) 3 (some (.int v)) sz K h) (hK : LyOk K) (x0 : Nat) (x1 : Int32) (x2 : Int32) (x4 : Int32)  (hr5 : ∀ (x3 : Int32) (x4 : Int32), r5 x3 x4 = some v → Go Γ (0, 0) 5 [(0, .ref x0), (1, .int x1), (2, .int x2), (3, .int x3), (4, .int x4)] [] sz K h) (px0 : K x0 = some (.inl 11)) (E : f11_serveFor_J78 K n r5 x0 x1 x2 x4 h = some v) : Go Γ (0, 0) 78 [(0, .ref x0), (1, .int x1), (2, .int x2), (4, .int x4)] [] sz K h := by
  unfold f11_serveFor_J78 at E
  refine g_iload (n := 4) X (by decide +kernel) 3 rfl ?_
  refine g_goto (off := 4) (tgt := 84) X (by decide +kernel) (by decide) ?_
  exact w11_serveFor_J84 X hK x0 x1 x2 x4 x4 hr5 px0 E
set_option maxHeartbeats 4000000 in
set_option maxRecDepth 20000 in
theorem w11_serveFor_J83 {Γ : CT} {sp : Sp} {K : Ly} {sz n : Nat} {v : Int32} {h : Hp}  {r5 : Int32 → Int32 → Option (Int32)}  (X : Ok Γ sp prog_13_method_52_code Rc11 6 (some (.int)) 3 (some (.int v)) sz K h) (hK : LyOk K) (x0 : Nat) (x1 : Int32) (x2 : Int32) (x3 : Int32) (x4 : Int32)  (hr5 : ∀ (x3 : Int32) (x4 : Int32), r5 x3 x4 = some v → Go Γ (0, 0) 5 [(0, .ref x0), (1, .int x1), (2, .int x2), (3, .int x3), (4, .int x4)] [] sz K h) (px0 : K x0 = some (.inl 11)) (E : f11_serveFor_J83 K n r5 x0 x1 x2 x3 x4 h = some v) : Go Γ (0, 0) 83 [(0, .ref x0), (1, .int x1), (2, .int x2), (3, .int x3), (4, .int x4)] [] sz K h := by
  unfold f11_serveFor_J83 at E
  refine g_iload_n (n := 3) X (by decide +kernel) 3 rfl ?_
  refine g_sub [0, 1, 2, 4] rfl ?_
  exact w11_serveFor_J84 X hK x0 x1 x2 x4 x3 hr5 px0 E
set_option maxHeartbeats 4000000 in
set_option maxRecDepth 20000 in
theorem w11_serveFor_J44 {Γ : CT} {sp : Sp} {K : Ly} {sz n : Nat} {v : Int32} {h : Hp}  {r5 : Int32 → Int32 → Option (Int32)}  (X : Ok Γ sp prog_13_method_52_code Rc11 6 (some (.int)) 3 (some (.int v)) sz K h) (hK : LyOk K) (x0 : Nat) (x1 : Int32) (x2 : Int32) (x3 : Int32) (x4 : Int32) (s0 : Int32)  (hr5 : ∀ (x3 : Int32) (x4 : Int32), r5 x3 x4 = some v → Go Γ (0, 0) 5 [(0, .ref x0), (1, .int x1), (2, .int x2), (3, .int x3), (4, .int x4)] [] sz K h) (px0 : K x0 = some (.inl 11)) (E : f11_serveFor_J44 K n r5 x0 x1 x2 x3 x4 s0 h = some v) : Go Γ (0, 0) 44 [(0, .ref x0), (1, .int x1), (2, .int x2), (3, .int x3), (4, .int x4)] [.int s0] sz K h := by
  unfold f11_serveFor_J44 at E
  refine s_istore (i := 5) X (by decide +kernel) (by decide) rfl (ls_next (by decide) (Or.inr rfl) (ls_next (by decide) (Or.inr rfl) (ls_next (by decide) (Or.inr rfl) (ls_next (by decide) (Or.inr rfl) (ls_next (by decide) (Or.inr rfl) (ls_ins ls_end)))))) ?_
  refine g_iload (n := 5) X (by decide +kernel) 5 rfl ?_
  rcases it_E E with ⟨c12, E⟩ | ⟨c12, E⟩
  · refine g_if_eq_t (off := 35) (tgt := 83) X (by decide +kernel) (by decide) c12 ?_
    refine g_sub [0, 1, 2, 3, 4] rfl ?_
    exact w11_serveFor_J83 X hK x0 x1 x2 x3 x4 hr5 px0 E
  · refine g_if_eq_f (off := 35) (tgt := 83) X (by decide +kernel) (by decide) c12 ?_
    refine g_iload_n (n := 3) X (by decide +kernel) 3 rfl ?_
    refine g_iconst (n := -1) (x := (-1 : Int32)) X (by decide +kernel) (by decide) ?_
    rcases it_E E with ⟨c13, E⟩ | ⟨c13, E⟩
    · refine g_icmp_eq_t (off := 25) (tgt := 78) X (by decide +kernel) (by decide) c13 ?_
      refine g_sub [0, 1, 2, 4] rfl ?_
      exact w11_serveFor_J78 X hK x0 x1 x2 x4 hr5 px0 E
    · refine g_icmp_eq_f (off := 25) (tgt := 78) X (by decide +kernel) (by decide) c13 ?_
      refine g_aload_n (n := 0) X (by decide +kernel) 0 rfl ?_
      refine g_iload (n := 4) X (by decide +kernel) 4 rfl ?_
      refine g_iconst (n := 1) (x := (1 : Int32)) X (by decide +kernel) (by decide) ?_
      obtain ⟨y15, e14, E⟩ := bp_E E
      refine g_callV1 (st := []) X [.int x4, .int (1 : Int32)] (by decide +kernel) ml11_369 px0 rfl rfl (by decide) (Nat.le_of_ble_eq_true rfl) (c11_serveAt hK x0 x4 (1 : Int32) h px0 e14) ?_
      obtain ⟨y17, e16, E⟩ := bp_E E
      refine g_callS1 (st := []) X [.int y15] (by decide +kernel) ml11_354 (by decide) (Nat.le_of_ble_eq_true rfl) (c11_lettersOf hK y15 h  e16) ?_
      refine g_aload_n (n := 0) X (by decide +kernel) 0 rfl ?_
      refine g_iload_n (n := 3) X (by decide +kernel) 3 rfl ?_
      refine g_iconst (n := 1) (x := (1 : Int32)) X (by decide +kernel) (by decide) ?_
      obtain ⟨y19, e18, E⟩ := bp_E E
      refine g_callV1 (st := [.int y17]) X [.int x3, .int (1 : Int32)] (by decide +kernel) ml11_369 px0 rfl rfl (by decide) (Nat.le_of_ble_eq_true rfl) (c11_serveAt hK x0 x3 (1 : Int32) h px0 e18) ?_
      obtain ⟨y21, e20, E⟩ := bp_E E
      refine g_callS1 (st := [.int y17]) X [.int y19] (by decide +kernel) ml11_354 (by decide) (Nat.le_of_ble_eq_true rfl) (c11_lettersOf hK y19 h  e20) ?_
      have hJ : Go Γ (0, 0) 84 [(0, .ref x0), (1, .int x1), (2, .int x2), (4, .int x4)] [.int (if y17 ≤ y21 then x3 else x4)] sz K h := by
        exact w11_serveFor_J84 X hK x0 x1 x2 x4 (if y17 ≤ y21 then x3 else x4) hr5 px0 E
      clear E
      by_cases c22 : y17 ≤ y21
      · rw [if_pos c22] at hJ
        refine g_icmp_le_t (off := 8) (tgt := 83) X (by decide +kernel) (by decide) c22 ?_
        refine g_iload_n (n := 3) X (by decide +kernel) 3 rfl ?_
        refine g_sub [0, 1, 2, 4] rfl ?_
        exact hJ
      · rw [if_neg c22] at hJ
        refine g_icmp_le_f (off := 8) (tgt := 83) X (by decide +kernel) (by decide) c22 ?_
        refine g_iload (n := 4) X (by decide +kernel) 4 rfl ?_
        refine g_goto (off := 4) (tgt := 84) X (by decide +kernel) (by decide) ?_
        refine g_sub [0, 1, 2, 4] rfl ?_
        exact hJ
set_option maxHeartbeats 4000000 in
set_option maxRecDepth 20000 in
theorem w11_serveFor_J43 {Γ : CT} {sp : Sp} {K : Ly} {sz n : Nat} {v : Int32} {h : Hp}  {r5 : Int32 → Int32 → Option (Int32)}  (X : Ok Γ sp prog_13_method_52_code Rc11 6 (some (.int)) 3 (some (.int v)) sz K h) (hK : LyOk K) (x0 : Nat) (x1 : Int32) (x2 : Int32) (x3 : Int32) (x4 : Int32)  (hr5 : ∀ (x3 : Int32) (x4 : Int32), r5 x3 x4 = some v → Go Γ (0, 0) 5 [(0, .ref x0), (1, .int x1), (2, .int x2), (3, .int x3), (4, .int x4)] [] sz K h) (px0 : K x0 = some (.inl 11)) (E : f11_serveFor_J43 K n r5 x0 x1 x2 x3 x4 h = some v) : Go Γ (0, 0) 43 [(0, .ref x0), (1, .int x1), (2, .int x2), (3, .int x3), (4, .int x4)] [] sz K h := by
  unfold f11_serveFor_J43 at E
  refine g_iconst (n := 0) (x := (0 : Int32)) X (by decide +kernel) (by decide) ?_
  exact w11_serveFor_J44 X hK x0 x1 x2 x3 x4 (0 : Int32) hr5 px0 E
set_option maxHeartbeats 4000000 in
set_option maxRecDepth 20000 in
theorem w11_serveFor_L5 {Γ : CT} {sp : Sp} {K : Ly} {sz n : Nat} {v : Int32} {h : Hp}  (X : Ok Γ sp prog_13_method_52_code Rc11 6 (some (.int)) 3 (some (.int v)) sz K h) (hK : LyOk K) (x0 : Nat) (x1 : Int32) (x2 : Int32)  (px0 : K x0 = some (.inl 11))  : ∀ (k : Nat) (x3 : Int32) (x4 : Int32), f11_serveFor_L5 K n x0 x1 x2 h  k x3 x4 = some v → Go Γ (0, 0) 5 [(0, .ref x0), (1, .int x1), (2, .int x2), (3, .int x3), (4, .int x4)] [] sz K h := by
  intro k
  induction k with
  | zero => intro x3 x4 E; cases E
  | succ k ih =>
    intro x3 x4 E
    unfold f11_serveFor_L5 at E
    refine g_iload (n := 4) X (by decide +kernel) 4 rfl ?_
    refine g_aload_n (n := 0) X (by decide +kernel) 0 rfl ?_
    obtain ⟨y2, e1, E⟩ := bp_E E
    refine g_callV1 (st := [.int x4]) X [] (by decide +kernel) ml11_366 px0 rfl rfl (by decide) (Nat.le_of_ble_eq_true rfl) (c11_serves hK x0 h px0 e1) ?_
    rcases it_E E with ⟨c3, E⟩ | ⟨c3, E⟩
    · refine g_icmp_ge_t (off := 80) (tgt := 91) X (by decide +kernel) (by decide) c3 ?_
      refine g_iload_n (n := 3) X (by decide +kernel) 3 rfl ?_
      obtain rfl := Option.some.inj E
      exact g_ireturn X (by decide +kernel)
    · refine g_icmp_ge_f (off := 80) (tgt := 91) X (by decide +kernel) (by decide) c3 ?_
      refine g_aload_n (n := 0) X (by decide +kernel) 0 rfl ?_
      refine g_iload (n := 4) X (by decide +kernel) 4 rfl ?_
      refine g_iconst (n := 0) (x := (0 : Int32)) X (by decide +kernel) (by decide) ?_
      obtain ⟨y5, e4, E⟩ := bp_E E
      refine g_callV1 (st := []) X [.int x4, .int (0 : Int32)] (by decide +kernel) ml11_369 px0 rfl rfl (by decide) (Nat.le_of_ble_eq_true rfl) (c11_serveAt hK x0 x4 (0 : Int32) h px0 e4) ?_
      refine g_iload_n (n := 1) X (by decide +kernel) 1 rfl ?_
      rcases it_E E with ⟨c6, E⟩ | ⟨c6, E⟩
      · refine g_icmp_ne_f (off := 21) (tgt := 43) X (by decide +kernel) (by decide) (fun z => z c6) ?_
        refine g_aload_n (n := 0) X (by decide +kernel) 0 rfl ?_
        refine g_iload (n := 4) X (by decide +kernel) 4 rfl ?_
        refine g_iconst (n := 1) (x := (1 : Int32)) X (by decide +kernel) (by decide) ?_
        obtain ⟨y8, e7, E⟩ := bp_E E
        refine g_callV1 (st := []) X [.int x4, .int (1 : Int32)] (by decide +kernel) ml11_369 px0 rfl rfl (by decide) (Nat.le_of_ble_eq_true rfl) (c11_serveAt hK x0 x4 (1 : Int32) h px0 e7) ?_
        refine g_iload_n (n := 2) X (by decide +kernel) 2 rfl ?_
        obtain ⟨y10, e9, E⟩ := bp_E E
        refine g_callS1 (st := []) X [.int y8, .int x2] (by decide +kernel) ml11_363 (by decide) (Nat.le_of_ble_eq_true rfl) (c11_isBeginning hK y8 x2 h  e9) ?_
        have hJ : Go Γ (0, 0) 44 [(0, .ref x0), (1, .int x1), (2, .int x2), (3, .int x3), (4, .int x4)] [.int (if y10 = 0 then (0 : Int32) else (1 : Int32))] sz K h := by
          exact w11_serveFor_J44 X hK x0 x1 x2 x3 x4 (if y10 = 0 then (0 : Int32) else (1 : Int32)) ih px0 E
        clear E
        by_cases c11 : y10 = 0
        · rw [if_pos c11] at hJ
          refine g_if_eq_t (off := 7) (tgt := 43) X (by decide +kernel) (by decide) c11 ?_
          refine g_iconst (n := 0) (x := (0 : Int32)) X (by decide +kernel) (by decide) ?_
          exact hJ
        · rw [if_neg c11] at hJ
          refine g_if_eq_f (off := 7) (tgt := 43) X (by decide +kernel) (by decide) c11 ?_
          refine g_iconst (n := 1) (x := (1 : Int32)) X (by decide +kernel) (by decide) ?_
          refine g_goto (off := 4) (tgt := 44) X (by decide +kernel) (by decide) ?_
          exact hJ
      · refine g_icmp_ne_t (off := 21) (tgt := 43) X (by decide +kernel) (by decide) c6 ?_
        exact w11_serveFor_J43 X hK x0 x1 x2 x3 x4 ih px0 E
set_option maxHeartbeats 4000000 in
set_option maxRecDepth 20000 in
theorem c11_serveFor {sp : Sp} {K : Ly} {sz n : Nat} (hK : LyOk K) (o : Nat) (a1 : Int32) (a2 : Int32) (h : Hp) (ho : K o = some (.inl 11)) {v : Int32} (E : f11_serveFor K n o a1 a2 h = some v) : Con sp y11_serveFor prog_13_method_52_code 6 (some (.int)) 3 0 0 [.ref o, .int a1, .int a2] sz K h (some (.int v)) sz K h := by
  refine Con.of (by decide) (Nat.le_of_ble_eq_true rfl) (fun Γ X _ => ?_)
  show Go Γ (0, 0) 0 [(0, .ref o), (1, .int a1), (2, .int a2)] [] sz K h
  unfold f11_serveFor at E
  refine g_iconst (n := -1) (x := (-1 : Int32)) X (by decide +kernel) (by decide) ?_
  refine s_istore_n (n := 3) (i := 3) X (by decide +kernel) rfl (by decide) rfl (ls_next (by decide) (Or.inr rfl) (ls_next (by decide) (Or.inr rfl) (ls_next (by decide) (Or.inr rfl) (ls_ins ls_end)))) ?_
  refine g_iconst (n := 0) (x := (0 : Int32)) X (by decide +kernel) (by decide) ?_
  refine s_istore (i := 4) X (by decide +kernel) (by decide) rfl (ls_next (by decide) (Or.inr rfl) (ls_next (by decide) (Or.inr rfl) (ls_next (by decide) (Or.inr rfl) (ls_next (by decide) (Or.inr rfl) (ls_ins ls_end))))) ?_
  exact w11_serveFor_L5 X hK o a1 a2 ho n (-1 : Int32) (0 : Int32) E
-- AskedNamesModel.ofPlace
def f11_ofPlace (K : Ly) (n : Nat) (o : Nat) (a1 : Int32) (a2 : Int32) (h : Hp) : Option (Int32) :=
    if (300 : Int32) ≤ a1 then (
    bp (f11_serves K n o h) fun y3 =>
    if y3 ≤ a2 then (
    some (-2 : Int32))
    else (
    bp (f11_serveAt K n o a2 ((a1 - (300 : Int32)) / (20 : Int32)) h) fun y6 =>
    some y6))
    else (
    bp (f11_routes K n o h) fun y8 =>
    if y8 ≤ a2 then (
    some (-2 : Int32))
    else (
    bp (f11_routeAt K n o a2 ((a1 - (200 : Int32)) / (20 : Int32)) h) fun y11 =>
    some y11))
set_option maxHeartbeats 4000000 in
set_option maxRecDepth 20000 in
theorem c11_ofPlace {sp : Sp} {K : Ly} {sz n : Nat} (hK : LyOk K) (o : Nat) (a1 : Int32) (a2 : Int32) (h : Hp) (ho : K o = some (.inl 11)) {v : Int32} (E : f11_ofPlace K n o a1 a2 h = some v) : Con sp y11_ofPlace prog_13_method_53_code 3 (some (.int)) 3 0 0 [.ref o, .int a1, .int a2] sz K h (some (.int v)) sz K h := by
  refine Con.of (by decide) (Nat.le_of_ble_eq_true rfl) (fun Γ X _ => ?_)
  show Go Γ (0, 0) 0 [(0, .ref o), (1, .int a1), (2, .int a2)] [] sz K h
  unfold f11_ofPlace at E
  refine g_iload_n (n := 1) X (by decide +kernel) 1 rfl ?_
  refine g_sipush (n := 300) (x := (300 : Int32)) X (by decide +kernel) (by decide) ?_
  rcases it_E E with ⟨c1, E⟩ | ⟨c1, E⟩
  · refine g_icmp_ge_t (off := 30) (tgt := 34) X (by decide +kernel) (by decide) c1 ?_
    refine g_iload_n (n := 2) X (by decide +kernel) 2 rfl ?_
    refine g_aload_n (n := 0) X (by decide +kernel) 0 rfl ?_
    obtain ⟨y3, e2, E⟩ := bp_E E
    refine g_callV1 (st := [.int a2]) X [] (by decide +kernel) ml11_366 ho rfl rfl (by decide) (Nat.le_of_ble_eq_true rfl) (c11_serves hK o h ho e2) ?_
    rcases it_E E with ⟨c4, E⟩ | ⟨c4, E⟩
    · refine g_icmp_ge_t (off := 19) (tgt := 58) X (by decide +kernel) (by decide) c4 ?_
      refine g_bipush (n := -2) (x := (-2 : Int32)) X (by decide +kernel) (by decide) ?_
      obtain rfl := Option.some.inj E
      exact g_ireturn X (by decide +kernel)
    · refine g_icmp_ge_f (off := 19) (tgt := 58) X (by decide +kernel) (by decide) c4 ?_
      refine g_aload_n (n := 0) X (by decide +kernel) 0 rfl ?_
      refine g_iload_n (n := 2) X (by decide +kernel) 2 rfl ?_
      refine g_iload_n (n := 1) X (by decide +kernel) 1 rfl ?_
      refine g_sipush (n := 300) (x := (300 : Int32)) X (by decide +kernel) (by decide) ?_
      refine g_isub X (by decide +kernel) ?_
      refine g_bipush (n := 20) (x := (20 : Int32)) X (by decide +kernel) (by decide) ?_
      refine g_idiv X (by decide +kernel) (by decide) ?_
      obtain ⟨y6, e5, E⟩ := bp_E E
      refine g_callV1 (st := []) X [.int a2, .int ((a1 - (300 : Int32)) / (20 : Int32))] (by decide +kernel) ml11_369 ho rfl rfl (by decide) (Nat.le_of_ble_eq_true rfl) (c11_serveAt hK o a2 ((a1 - (300 : Int32)) / (20 : Int32)) h ho e5) ?_
      refine g_goto (off := 5) (tgt := 60) X (by decide +kernel) (by decide) ?_
      obtain rfl := Option.some.inj E
      exact g_ireturn X (by decide +kernel)
  · refine g_icmp_ge_f (off := 30) (tgt := 34) X (by decide +kernel) (by decide) c1 ?_
    refine g_iload_n (n := 2) X (by decide +kernel) 2 rfl ?_
    refine g_aload_n (n := 0) X (by decide +kernel) 0 rfl ?_
    obtain ⟨y8, e7, E⟩ := bp_E E
    refine g_callV1 (st := [.int a2]) X [] (by decide +kernel) ml11_357 ho rfl rfl (by decide) (Nat.le_of_ble_eq_true rfl) (c11_routes hK o h ho e7) ?_
    rcases it_E E with ⟨c9, E⟩ | ⟨c9, E⟩
    · refine g_icmp_ge_t (off := 19) (tgt := 31) X (by decide +kernel) (by decide) c9 ?_
      refine g_bipush (n := -2) (x := (-2 : Int32)) X (by decide +kernel) (by decide) ?_
      obtain rfl := Option.some.inj E
      exact g_ireturn X (by decide +kernel)
    · refine g_icmp_ge_f (off := 19) (tgt := 31) X (by decide +kernel) (by decide) c9 ?_
      refine g_aload_n (n := 0) X (by decide +kernel) 0 rfl ?_
      refine g_iload_n (n := 2) X (by decide +kernel) 2 rfl ?_
      refine g_iload_n (n := 1) X (by decide +kernel) 1 rfl ?_
      refine g_sipush (n := 200) (x := (200 : Int32)) X (by decide +kernel) (by decide) ?_
      refine g_isub X (by decide +kernel) ?_
      refine g_bipush (n := 20) (x := (20 : Int32)) X (by decide +kernel) (by decide) ?_
      refine g_idiv X (by decide +kernel) (by decide) ?_
      obtain ⟨y11, e10, E⟩ := bp_E E
      refine g_callV1 (st := []) X [.int a2, .int ((a1 - (200 : Int32)) / (20 : Int32))] (by decide +kernel) ml11_360 ho rfl rfl (by decide) (Nat.le_of_ble_eq_true rfl) (c11_routeAt hK o a2 ((a1 - (200 : Int32)) / (20 : Int32)) h ho e10) ?_
      refine g_goto (off := 5) (tgt := 33) X (by decide +kernel) (by decide) ?_
      obtain rfl := Option.some.inj E
      exact g_ireturn X (by decide +kernel)
-- AskedNamesModel.net
def f11_net_J184 (K : Ly) (n : Nat)  (x0 : Nat) (x2 : Int32) (h : Hp) : Option (Int32 × Hp) :=
    bp (f11_ofPlace K n x0 x2 (x2 - x2 / (20 : Int32) * (20 : Int32)) h) fun y34 =>
    some (y34, h)
def f11_net (K : Ly) (n : Nat) (o : Nat) (a1 : Int32) (a2 : Int32) (h : Hp) : Option (Int32 × Hp) :=
    lt (sI h o 0 (0 : Int32)) fun h1 =>
    bd (f11_hasNet K n o a1 h1) fun y4 h3 =>
    if y4 = 0 then (
    some ((-2 : Int32), h3))
    else (
    if (f11_in a2 (0 : Int32) (4 : Int32)) = 0 then (
    if (f11_in a2 (10 : Int32) (15 : Int32)) = 0 then (
    if (f11_in a2 (100 : Int32) (199 : Int32)) = 0 then (
    if (f11_in a2 (200 : Int32) (279 : Int32)) = 0 then (
    if (f11_in a2 (300 : Int32) (359 : Int32)) = 0 then (
    some ((-2 : Int32), h3))
    else (
    f11_net_J184 K n o a2 h3))
    else (
    f11_net_J184 K n o a2 h3))
    else (
    lt ((a2 - (100 : Int32)) / (10 : Int32)) fun x3_11 =>
    lt (a2 - a2 / (10 : Int32) * (10 : Int32)) fun x4_12 =>
    bp (f11_isNode K n o x3_11 h3) fun y14 =>
    if y14 = 0 then (
    some ((-2 : Int32), h3))
    else (
    bp (f11_isNode K n o x4_12 h3) fun y17 =>
    if y17 = 0 then (
    some ((-2 : Int32), h3))
    else (
    bp (f11_layLinks K n o (-1 : Int32) h3) fun h20 =>
    gd (inb (((6 : Int32) * x3_11) + x4_12) 36) <|
    if (h20.1 (o + 11) (((6 : Int32) * x3_11) + x4_12).toNatClampNeg) = (-1 : Int32) then (
    some ((-1 : Int32), h20))
    else (
    gd (inb (((6 : Int32) * x3_11) + x4_12) 36) <|
    bp (f11_linkAt K n o (h20.1 (o + 11) (((6 : Int32) * x3_11) + x4_12).toNatClampNeg) (2 : Int32) h20) fun y25 =>
    some (y25, h20))))))
    else (
    bp (f11_isNode K n o (a2 - (10 : Int32)) h3) fun y27 =>
    if y27 = 0 then (
    some ((-2 : Int32), h3))
    else (
    bp (f11_ofNet K n o (((5 : Int32) + a2) - (10 : Int32)) h3) fun y30 =>
    some (y30, h3))))
    else (
    bp (f11_ofNet K n o a2 h3) fun y32 =>
    some (y32, h3)))
set_option maxHeartbeats 4000000 in
set_option maxRecDepth 20000 in
theorem w11_net_J184 {Γ : CT} {sp : Sp} {K : Ly} {sz n : Nat} {v : Int32} {hf : Hp}   (X : Ok Γ sp prog_13_method_54_code Rc11 5 (some (.int)) 4 (some (.int v)) sz K hf) (hK : LyOk K) (x0 : Nat) (x2 : Int32) (h : Hp)  (px0 : K x0 = some (.inl 11)) (E : f11_net_J184 K n x0 x2 h = some (v, hf)) : Go Γ (0, 0) 184 [(0, .ref x0), (2, .int x2)] [] sz K h := by
  unfold f11_net_J184 at E
  refine g_aload_n (n := 0) X (by decide +kernel) 0 rfl ?_
  refine g_iload_n (n := 2) X (by decide +kernel) 1 rfl ?_
  refine g_iload_n (n := 2) X (by decide +kernel) 1 rfl ?_
  refine g_bipush (n := 20) (x := (20 : Int32)) X (by decide +kernel) (by decide) ?_
  refine g_irem X (by decide +kernel) (by decide) ?_
  obtain ⟨y34, e33, E⟩ := bp_E E
  refine g_callV1 (st := []) X [.int x2, .int (x2 - x2 / (20 : Int32) * (20 : Int32))] (by decide +kernel) ml11_381 px0 rfl rfl (by decide) (Nat.le_of_ble_eq_true rfl) (c11_ofPlace hK x0 x2 (x2 - x2 / (20 : Int32) * (20 : Int32)) h px0 e33) ?_
  refine g_goto (off := 5) (tgt := 198) X (by decide +kernel) (by decide) ?_
  obtain ⟨rfl, rfl⟩ := rt_E E
  exact g_ireturn X (by decide +kernel)
set_option maxHeartbeats 4000000 in
set_option maxRecDepth 20000 in
theorem c11_net {sp : Sp} {K : Ly} {sz n : Nat} (hK : LyOk K) (o : Nat) (a1 : Int32) (a2 : Int32) (h : Hp) (ho : K o = some (.inl 11)) {v : Int32} {hf : Hp} (E : f11_net K n o a1 a2 h = some (v, hf)) : Con sp y11_net prog_13_method_54_code 5 (some (.int)) 4 0 0 [.ref o, .int a1, .int a2] sz K h (some (.int v)) sz K hf := by
  refine Con.of (by decide) (Nat.le_of_ble_eq_true rfl) (fun Γ X _ => ?_)
  show Go Γ (0, 0) 0 [(0, .ref o), (1, .int a1), (2, .int a2)] [] sz K h
  unfold f11_net at E
  refine g_aload_n (n := 0) X (by decide +kernel) 0 rfl ?_
  refine g_iconst (n := 0) (x := (0 : Int32)) X (by decide +kernel) (by decide) ?_
  obtain ⟨h1, eh1, E⟩ := lt_E E
  refine g_putI X (by decide +kernel) fp11_169 ho eh1 ?_
  refine g_aload_n (n := 0) X (by decide +kernel) 0 rfl ?_
  refine g_iload_n (n := 1) X (by decide +kernel) 1 rfl ?_
  obtain ⟨y4, h3, e2, E⟩ := bd_E E
  refine g_callV1 (st := []) X [.int a1] (by decide +kernel) ml11_372 ho rfl rfl (by decide) (Nat.le_of_ble_eq_true rfl) (c11_hasNet hK o a1 h1 ho e2) ?_
  rcases it_E E with ⟨c5, E⟩ | ⟨c5, E⟩
  · refine g_if_ne_f (off := 6) (tgt := 16) X (by decide +kernel) (by decide) (fun z => z c5) ?_
    refine g_bipush (n := -2) (x := (-2 : Int32)) X (by decide +kernel) (by decide) ?_
    obtain ⟨rfl, rfl⟩ := rt_E E
    exact g_ireturn X (by decide +kernel)
  · refine g_if_ne_t (off := 6) (tgt := 16) X (by decide +kernel) (by decide) c5 ?_
    refine g_iload_n (n := 2) X (by decide +kernel) 2 rfl ?_
    refine g_iconst (n := 0) (x := (0 : Int32)) X (by decide +kernel) (by decide) ?_
    refine g_iconst (n := 4) (x := (4 : Int32)) X (by decide +kernel) (by decide) ?_
    refine g_callS1 (st := []) X [.int a2, .int (0 : Int32), .int (4 : Int32)] (by decide +kernel) ml11_181 (by decide) (Nat.le_of_ble_eq_true rfl) (c11_in hK a2 (0 : Int32) (4 : Int32) h3 ) ?_
    rcases it_E E with ⟨c6, E⟩ | ⟨c6, E⟩
    · refine g_if_eq_t (off := 9) (tgt := 31) X (by decide +kernel) (by decide) c6 ?_
      refine g_iload_n (n := 2) X (by decide +kernel) 2 rfl ?_
      refine g_bipush (n := 10) (x := (10 : Int32)) X (by decide +kernel) (by decide) ?_
      refine g_bipush (n := 15) (x := (15 : Int32)) X (by decide +kernel) (by decide) ?_
      refine g_callS1 (st := []) X [.int a2, .int (10 : Int32), .int (15 : Int32)] (by decide +kernel) ml11_181 (by decide) (Nat.le_of_ble_eq_true rfl) (c11_in hK a2 (10 : Int32) (15 : Int32) h3 ) ?_
      rcases it_E E with ⟨c7, E⟩ | ⟨c7, E⟩
      · refine g_if_eq_t (off := 30) (tgt := 69) X (by decide +kernel) (by decide) c7 ?_
        refine g_iload_n (n := 2) X (by decide +kernel) 2 rfl ?_
        refine g_bipush (n := 100) (x := (100 : Int32)) X (by decide +kernel) (by decide) ?_
        refine g_sipush (n := 199) (x := (199 : Int32)) X (by decide +kernel) (by decide) ?_
        refine g_callS1 (st := []) X [.int a2, .int (100 : Int32), .int (199 : Int32)] (by decide +kernel) ml11_181 (by decide) (Nat.le_of_ble_eq_true rfl) (c11_in hK a2 (100 : Int32) (199 : Int32) h3 ) ?_
        rcases it_E E with ⟨c8, E⟩ | ⟨c8, E⟩
        · refine g_if_eq_t (off := 80) (tgt := 158) X (by decide +kernel) (by decide) c8 ?_
          refine g_iload_n (n := 2) X (by decide +kernel) 2 rfl ?_
          refine g_sipush (n := 200) (x := (200 : Int32)) X (by decide +kernel) (by decide) ?_
          refine g_sipush (n := 279) (x := (279 : Int32)) X (by decide +kernel) (by decide) ?_
          refine g_callS1 (st := []) X [.int a2, .int (200 : Int32), .int (279 : Int32)] (by decide +kernel) ml11_181 (by decide) (Nat.le_of_ble_eq_true rfl) (c11_in hK a2 (200 : Int32) (279 : Int32) h3 ) ?_
          rcases it_E E with ⟨c9, E⟩ | ⟨c9, E⟩
          · refine g_if_ne_f (off := 16) (tgt := 184) X (by decide +kernel) (by decide) (fun z => z c9) ?_
            refine g_iload_n (n := 2) X (by decide +kernel) 2 rfl ?_
            refine g_sipush (n := 300) (x := (300 : Int32)) X (by decide +kernel) (by decide) ?_
            refine g_sipush (n := 359) (x := (359 : Int32)) X (by decide +kernel) (by decide) ?_
            refine g_callS1 (st := []) X [.int a2, .int (300 : Int32), .int (359 : Int32)] (by decide +kernel) ml11_181 (by decide) (Nat.le_of_ble_eq_true rfl) (c11_in hK a2 (300 : Int32) (359 : Int32) h3 ) ?_
            rcases it_E E with ⟨c10, E⟩ | ⟨c10, E⟩
            · refine g_if_eq_t (off := 15) (tgt := 196) X (by decide +kernel) (by decide) c10 ?_
              refine g_bipush (n := -2) (x := (-2 : Int32)) X (by decide +kernel) (by decide) ?_
              obtain ⟨rfl, rfl⟩ := rt_E E
              exact g_ireturn X (by decide +kernel)
            · refine g_if_eq_f (off := 15) (tgt := 196) X (by decide +kernel) (by decide) c10 ?_
              refine g_sub [0, 2] rfl ?_
              exact w11_net_J184 X hK o a2 h3 ho E
          · refine g_if_ne_t (off := 16) (tgt := 184) X (by decide +kernel) (by decide) c9 ?_
            refine g_sub [0, 2] rfl ?_
            exact w11_net_J184 X hK o a2 h3 ho E
        · refine g_if_eq_f (off := 80) (tgt := 158) X (by decide +kernel) (by decide) c8 ?_
          refine g_iload_n (n := 2) X (by decide +kernel) 2 rfl ?_
          refine g_bipush (n := 100) (x := (100 : Int32)) X (by decide +kernel) (by decide) ?_
          refine g_isub X (by decide +kernel) ?_
          refine g_bipush (n := 10) (x := (10 : Int32)) X (by decide +kernel) (by decide) ?_
          refine g_idiv X (by decide +kernel) (by decide) ?_
          obtain ⟨x3_11, ex3_11, E⟩ := lt_E E
          refine s_istore_n (n := 3) (i := 3) X (by decide +kernel) rfl (by decide) ex3_11 (ls_next (by decide) (Or.inr rfl) (ls_next (by decide) (Or.inr rfl) (ls_next (by decide) (Or.inr rfl) (ls_ins ls_end)))) ?_
          refine g_iload_n (n := 2) X (by decide +kernel) 2 rfl ?_
          refine g_bipush (n := 10) (x := (10 : Int32)) X (by decide +kernel) (by decide) ?_
          refine g_irem X (by decide +kernel) (by decide) ?_
          obtain ⟨x4_12, ex4_12, E⟩ := lt_E E
          refine s_istore (i := 4) X (by decide +kernel) (by decide) ex4_12 (ls_next (by decide) (Or.inr rfl) (ls_next (by decide) (Or.inr rfl) (ls_next (by decide) (Or.inr rfl) (ls_next (by decide) (Or.inr rfl) (ls_ins ls_end))))) ?_
          refine g_aload_n (n := 0) X (by decide +kernel) 0 rfl ?_
          refine g_iload_n (n := 3) X (by decide +kernel) 3 rfl ?_
          obtain ⟨y14, e13, E⟩ := bp_E E
          refine g_callV1 (st := []) X [.int x3_11] (by decide +kernel) ml11_375 ho rfl rfl (by decide) (Nat.le_of_ble_eq_true rfl) (c11_isNode hK o x3_11 h3 ho e13) ?_
          rcases it_E E with ⟨c15, E⟩ | ⟨c15, E⟩
          · refine g_if_eq_t (off := 12) (tgt := 112) X (by decide +kernel) (by decide) c15 ?_
            refine g_bipush (n := -2) (x := (-2 : Int32)) X (by decide +kernel) (by decide) ?_
            obtain ⟨rfl, rfl⟩ := rt_E E
            exact g_ireturn X (by decide +kernel)
          · refine g_if_eq_f (off := 12) (tgt := 112) X (by decide +kernel) (by decide) c15 ?_
            refine g_aload_n (n := 0) X (by decide +kernel) 0 rfl ?_
            refine g_iload (n := 4) X (by decide +kernel) 4 rfl ?_
            obtain ⟨y17, e16, E⟩ := bp_E E
            refine g_callV1 (st := []) X [.int x4_12] (by decide +kernel) ml11_375 ho rfl rfl (by decide) (Nat.le_of_ble_eq_true rfl) (c11_isNode hK o x4_12 h3 ho e16) ?_
            rcases it_E E with ⟨c18, E⟩ | ⟨c18, E⟩
            · refine g_if_ne_f (off := 6) (tgt := 115) X (by decide +kernel) (by decide) (fun z => z c18) ?_
              refine g_bipush (n := -2) (x := (-2 : Int32)) X (by decide +kernel) (by decide) ?_
              obtain ⟨rfl, rfl⟩ := rt_E E
              exact g_ireturn X (by decide +kernel)
            · refine g_if_ne_t (off := 6) (tgt := 115) X (by decide +kernel) (by decide) c18 ?_
              refine g_aload_n (n := 0) X (by decide +kernel) 0 rfl ?_
              refine g_iconst (n := -1) (x := (-1 : Int32)) X (by decide +kernel) (by decide) ?_
              obtain ⟨h20, e19, E⟩ := bp_E E
              refine g_callV0 (st := []) X [.int (-1 : Int32)] (by decide +kernel) ml11_378 ho rfl rfl (by decide) (Nat.le_of_ble_eq_true rfl) (c11_layLinks hK o (-1 : Int32) h3 ho e19) ?_
              refine g_aload_n (n := 0) X (by decide +kernel) 0 rfl ?_
              refine g_getS X (by decide +kernel) fl11_41 ho ?_
              refine g_bipush (n := 6) (x := (6 : Int32)) X (by decide +kernel) (by decide) ?_
              refine g_iload_n (n := 3) X (by decide +kernel) 3 rfl ?_
              refine g_imul X (by decide +kernel) ?_
              refine g_iload (n := 4) X (by decide +kernel) 4 rfl ?_
              refine g_iadd X (by decide +kernel) ?_
              obtain ⟨c21, E⟩ := gd_E E
              refine g_iald X (by decide +kernel) (ly hK ho fl11_41 rfl) c21 ?_
              refine g_iconst (n := -1) (x := (-1 : Int32)) X (by decide +kernel) (by decide) ?_
              rcases it_E E with ⟨c22, E⟩ | ⟨c22, E⟩
              · refine g_icmp_ne_f (off := 7) (tgt := 140) X (by decide +kernel) (by decide) (fun z => z c22) ?_
                refine g_iconst (n := -1) (x := (-1 : Int32)) X (by decide +kernel) (by decide) ?_
                refine g_goto (off := 20) (tgt := 157) X (by decide +kernel) (by decide) ?_
                obtain ⟨rfl, rfl⟩ := rt_E E
                exact g_ireturn X (by decide +kernel)
              · refine g_icmp_ne_t (off := 7) (tgt := 140) X (by decide +kernel) (by decide) c22 ?_
                refine g_aload_n (n := 0) X (by decide +kernel) 0 rfl ?_
                refine g_aload_n (n := 0) X (by decide +kernel) 0 rfl ?_
                refine g_getS X (by decide +kernel) fl11_41 ho ?_
                refine g_bipush (n := 6) (x := (6 : Int32)) X (by decide +kernel) (by decide) ?_
                refine g_iload_n (n := 3) X (by decide +kernel) 3 rfl ?_
                refine g_imul X (by decide +kernel) ?_
                refine g_iload (n := 4) X (by decide +kernel) 4 rfl ?_
                refine g_iadd X (by decide +kernel) ?_
                obtain ⟨c23, E⟩ := gd_E E
                refine g_iald X (by decide +kernel) (ly hK ho fl11_41 rfl) c23 ?_
                refine g_iconst (n := 2) (x := (2 : Int32)) X (by decide +kernel) (by decide) ?_
                obtain ⟨y25, e24, E⟩ := bp_E E
                refine g_callV1 (st := []) X [.int (h20.1 (o + 11) (((6 : Int32) * x3_11) + x4_12).toNatClampNeg), .int (2 : Int32)] (by decide +kernel) ml11_348 ho rfl rfl (by decide) (Nat.le_of_ble_eq_true rfl) (c11_linkAt hK o (h20.1 (o + 11) (((6 : Int32) * x3_11) + x4_12).toNatClampNeg) (2 : Int32) h20 ho e24) ?_
                obtain ⟨rfl, rfl⟩ := rt_E E
                exact g_ireturn X (by decide +kernel)
      · refine g_if_eq_f (off := 30) (tgt := 69) X (by decide +kernel) (by decide) c7 ?_
        refine g_aload_n (n := 0) X (by decide +kernel) 0 rfl ?_
        refine g_iload_n (n := 2) X (by decide +kernel) 2 rfl ?_
        refine g_bipush (n := 10) (x := (10 : Int32)) X (by decide +kernel) (by decide) ?_
        refine g_isub X (by decide +kernel) ?_
        obtain ⟨y27, e26, E⟩ := bp_E E
        refine g_callV1 (st := []) X [.int (a2 - (10 : Int32))] (by decide +kernel) ml11_375 ho rfl rfl (by decide) (Nat.le_of_ble_eq_true rfl) (c11_isNode hK o (a2 - (10 : Int32)) h3 ho e26) ?_
        rcases it_E E with ⟨c28, E⟩ | ⟨c28, E⟩
        · refine g_if_eq_t (off := 16) (tgt := 66) X (by decide +kernel) (by decide) c28 ?_
          refine g_bipush (n := -2) (x := (-2 : Int32)) X (by decide +kernel) (by decide) ?_
          obtain ⟨rfl, rfl⟩ := rt_E E
          exact g_ireturn X (by decide +kernel)
        · refine g_if_eq_f (off := 16) (tgt := 66) X (by decide +kernel) (by decide) c28 ?_
          refine g_aload_n (n := 0) X (by decide +kernel) 0 rfl ?_
          refine g_iconst (n := 5) (x := (5 : Int32)) X (by decide +kernel) (by decide) ?_
          refine g_iload_n (n := 2) X (by decide +kernel) 2 rfl ?_
          refine g_iadd X (by decide +kernel) ?_
          refine g_bipush (n := 10) (x := (10 : Int32)) X (by decide +kernel) (by decide) ?_
          refine g_isub X (by decide +kernel) ?_
          obtain ⟨y30, e29, E⟩ := bp_E E
          refine g_callV1 (st := []) X [.int (((5 : Int32) + a2) - (10 : Int32))] (by decide +kernel) ml11_335 ho rfl rfl (by decide) (Nat.le_of_ble_eq_true rfl) (c11_ofNet hK o (((5 : Int32) + a2) - (10 : Int32)) h3 ho e29) ?_
          refine g_goto (off := 5) (tgt := 68) X (by decide +kernel) (by decide) ?_
          obtain ⟨rfl, rfl⟩ := rt_E E
          exact g_ireturn X (by decide +kernel)
    · refine g_if_eq_f (off := 9) (tgt := 31) X (by decide +kernel) (by decide) c6 ?_
      refine g_aload_n (n := 0) X (by decide +kernel) 0 rfl ?_
      refine g_iload_n (n := 2) X (by decide +kernel) 2 rfl ?_
      obtain ⟨y32, e31, E⟩ := bp_E E
      refine g_callV1 (st := []) X [.int a2] (by decide +kernel) ml11_335 ho rfl rfl (by decide) (Nat.le_of_ble_eq_true rfl) (c11_ofNet hK o a2 h3 ho e31) ?_
      obtain ⟨rfl, rfl⟩ := rt_E E
      exact g_ireturn X (by decide +kernel)
-- AskedNamesModel.begin
def f11_begin_L108 (K : Ly) (n : Nat) (x0 : Nat)   : Nat → Int32 → Hp → Option Hp
  | 0, _, _ => none
  | k + 1, x2, h =>
    if (64 : Int32) ≤ x2 then (
    some h)
    else (
    gd (inb x2 64) <|
    lt (sI h (x0 + 40) x2.toNatClampNeg (-1 : Int32)) fun h26 =>
    lt (x2 + (1 : Int32)) fun x2_27 =>
    f11_begin_L108 K n x0  k x2_27 h26)
def f11_begin_L87 (K : Ly) (n : Nat) (x0 : Nat)   : Nat → Int32 → Hp → Option Hp
  | 0, _, _ => none
  | k + 1, x2, h =>
    if (36 : Int32) ≤ x2 then (
    f11_begin_L108 K n x0 n (0 : Int32) h)
    else (
    gd (inb x2 36) <|
    lt (sI h (x0 + 13) x2.toNatClampNeg (-1 : Int32)) fun h22 =>
    lt (x2 + (1 : Int32)) fun x2_23 =>
    f11_begin_L87 K n x0  k x2_23 h22)
def f11_begin_L52 (K : Ly) (n : Nat) (x0 : Nat)   : Nat → Int32 → Hp → Option Hp
  | 0, _, _ => none
  | k + 1, x2, h =>
    if (6 : Int32) ≤ x2 then (
    f11_begin_L87 K n x0 n (0 : Int32) h)
    else (
    gd (inb x2 6) <|
    lt (sL h (x0 + 12) x2.toNatClampNeg (0 : Int64)) fun h14 =>
    gd (inb x2 6) <|
    lt (sI h14 (x0 + 14) x2.toNatClampNeg (0 : Int32)) fun h16 =>
    gd (inb x2 6) <|
    lt (sI h16 (x0 + 18) x2.toNatClampNeg (0 : Int32)) fun h18 =>
    lt (x2 + (1 : Int32)) fun x2_19 =>
    f11_begin_L52 K n x0  k x2_19 h18)
def f11_begin (K : Ly) (n : Nat) (o : Nat) (a1 : Int32) (h : Hp) : Option Hp :=
    bp (f11_layLinks K n o a1 h) fun h2 =>
    lt (sI h2 o 26 (0 : Int32)) fun h3 =>
    lt (sI h3 o 27 (0 : Int32)) fun h4 =>
    lt (sI h4 o 45 (0 : Int32)) fun h5 =>
    lt (sI h5 o 65 (0 : Int32)) fun h6 =>
    lt (sI h6 o 66 (0 : Int32)) fun h7 =>
    lt (sI h7 o 67 (0 : Int32)) fun h8 =>
    lt (sI h8 o 68 (0 : Int32)) fun h9 =>
    lt (sI h9 o 69 (0 : Int32)) fun h10 =>
    lt (sI h10 o 70 (0 : Int32)) fun h11 =>
    f11_begin_L52 K n o n (0 : Int32) h11
set_option maxHeartbeats 4000000 in
set_option maxRecDepth 20000 in
theorem w11_begin_L108 {Γ : CT} {sp : Sp} {K : Ly} {sz n : Nat} {hf : Hp}  (X : Ok Γ sp prog_13_method_55_code Rc11 3 none 4 none sz K hf) (hK : LyOk K) (x0 : Nat)  (px0 : K x0 = some (.inl 11))  : ∀ (k : Nat) (x2 : Int32) (h : Hp), f11_begin_L108 K n x0  k x2 h = some hf → Go Γ (0, 0) 108 [(0, .ref x0), (2, .int x2)] [] sz K h := by
  intro k
  induction k with
  | zero => intro x2 h E; cases E
  | succ k ih =>
    intro x2 h E
    unfold f11_begin_L108 at E
    refine g_iload_n (n := 2) X (by decide +kernel) 1 rfl ?_
    refine g_bipush (n := 64) (x := (64 : Int32)) X (by decide +kernel) (by decide) ?_
    rcases it_E E with ⟨c24, E⟩ | ⟨c24, E⟩
    · refine g_icmp_ge_t (off := 16) (tgt := 127) X (by decide +kernel) (by decide) c24 ?_
      obtain rfl := Option.some.inj E
      exact g_return X (by decide +kernel)
    · refine g_icmp_ge_f (off := 16) (tgt := 127) X (by decide +kernel) (by decide) c24 ?_
      refine g_aload_n (n := 0) X (by decide +kernel) 0 rfl ?_
      refine g_getS X (by decide +kernel) fl11_129 px0 ?_
      refine g_iload_n (n := 2) X (by decide +kernel) 1 rfl ?_
      refine g_iconst (n := -1) (x := (-1 : Int32)) X (by decide +kernel) (by decide) ?_
      obtain ⟨c25, E⟩ := gd_E E
      obtain ⟨h26, eh26, E⟩ := lt_E E
      refine g_iast X (by decide +kernel) (ly hK px0 fl11_129 rfl) c25 eh26 ?_
      obtain ⟨x2_27, ex2_27, E⟩ := lt_E E
      refine s_iinc (i := 2) (n := 1) (y := x2_27) X (by decide +kernel) 1 rfl (by decide) ex2_27 (ls_next (by decide) (Or.inr rfl) (ls_here ls_end)) ?_
      refine g_goto (off := -16) (tgt := 108) X (by decide +kernel) (by decide) ?_
      exact ih x2_27 h26  E
set_option maxHeartbeats 4000000 in
set_option maxRecDepth 20000 in
theorem w11_begin_L87 {Γ : CT} {sp : Sp} {K : Ly} {sz n : Nat} {hf : Hp}  (X : Ok Γ sp prog_13_method_55_code Rc11 3 none 4 none sz K hf) (hK : LyOk K) (x0 : Nat)  (px0 : K x0 = some (.inl 11))  : ∀ (k : Nat) (x2 : Int32) (h : Hp), f11_begin_L87 K n x0  k x2 h = some hf → Go Γ (0, 0) 87 [(0, .ref x0), (2, .int x2)] [] sz K h := by
  intro k
  induction k with
  | zero => intro x2 h E; cases E
  | succ k ih =>
    intro x2 h E
    unfold f11_begin_L87 at E
    refine g_iload_n (n := 2) X (by decide +kernel) 1 rfl ?_
    refine g_bipush (n := 36) (x := (36 : Int32)) X (by decide +kernel) (by decide) ?_
    rcases it_E E with ⟨c20, E⟩ | ⟨c20, E⟩
    · refine g_icmp_ge_t (off := 16) (tgt := 106) X (by decide +kernel) (by decide) c20 ?_
      refine g_iconst (n := 0) (x := (0 : Int32)) X (by decide +kernel) (by decide) ?_
      refine s_istore_n (n := 2) (i := 2) X (by decide +kernel) rfl (by decide) rfl (ls_next (by decide) (Or.inr rfl) (ls_here ls_end)) ?_
      exact w11_begin_L108 X hK x0 px0 n (0 : Int32) h E
    · refine g_icmp_ge_f (off := 16) (tgt := 106) X (by decide +kernel) (by decide) c20 ?_
      refine g_aload_n (n := 0) X (by decide +kernel) 0 rfl ?_
      refine g_getS X (by decide +kernel) fl11_48 px0 ?_
      refine g_iload_n (n := 2) X (by decide +kernel) 1 rfl ?_
      refine g_iconst (n := -1) (x := (-1 : Int32)) X (by decide +kernel) (by decide) ?_
      obtain ⟨c21, E⟩ := gd_E E
      obtain ⟨h22, eh22, E⟩ := lt_E E
      refine g_iast X (by decide +kernel) (ly hK px0 fl11_48 rfl) c21 eh22 ?_
      obtain ⟨x2_23, ex2_23, E⟩ := lt_E E
      refine s_iinc (i := 2) (n := 1) (y := x2_23) X (by decide +kernel) 1 rfl (by decide) ex2_23 (ls_next (by decide) (Or.inr rfl) (ls_here ls_end)) ?_
      refine g_goto (off := -16) (tgt := 87) X (by decide +kernel) (by decide) ?_
      exact ih x2_23 h22  E
set_option maxHeartbeats 4000000 in
set_option maxRecDepth 20000 in
theorem w11_begin_L52 {Γ : CT} {sp : Sp} {K : Ly} {sz n : Nat} {hf : Hp}  (X : Ok Γ sp prog_13_method_55_code Rc11 3 none 4 none sz K hf) (hK : LyOk K) (x0 : Nat)  (px0 : K x0 = some (.inl 11))  : ∀ (k : Nat) (x2 : Int32) (h : Hp), f11_begin_L52 K n x0  k x2 h = some hf → Go Γ (0, 0) 52 [(0, .ref x0), (2, .int x2)] [] sz K h := by
  intro k
  induction k with
  | zero => intro x2 h E; cases E
  | succ k ih =>
    intro x2 h E
    unfold f11_begin_L52 at E
    refine g_iload_n (n := 2) X (by decide +kernel) 1 rfl ?_
    refine g_bipush (n := 6) (x := (6 : Int32)) X (by decide +kernel) (by decide) ?_
    rcases it_E E with ⟨c12, E⟩ | ⟨c12, E⟩
    · refine g_icmp_ge_t (off := 30) (tgt := 85) X (by decide +kernel) (by decide) c12 ?_
      refine g_iconst (n := 0) (x := (0 : Int32)) X (by decide +kernel) (by decide) ?_
      refine s_istore_n (n := 2) (i := 2) X (by decide +kernel) rfl (by decide) rfl (ls_next (by decide) (Or.inr rfl) (ls_here ls_end)) ?_
      exact w11_begin_L87 X hK x0 px0 n (0 : Int32) h E
    · refine g_icmp_ge_f (off := 30) (tgt := 85) X (by decide +kernel) (by decide) c12 ?_
      refine g_aload_n (n := 0) X (by decide +kernel) 0 rfl ?_
      refine g_getS X (by decide +kernel) fl11_44 px0 ?_
      refine g_iload_n (n := 2) X (by decide +kernel) 1 rfl ?_
      refine g_lconst (n := 0) (x := (0 : Int64)) X (by decide +kernel) (by decide) ?_
      obtain ⟨c13, E⟩ := gd_E E
      obtain ⟨h14, eh14, E⟩ := lt_E E
      refine g_last X (by decide +kernel) (ly hK px0 fl11_44 rfl) c13 eh14 ?_
      refine g_aload_n (n := 0) X (by decide +kernel) 0 rfl ?_
      refine g_getS X (by decide +kernel) fl11_51 px0 ?_
      refine g_iload_n (n := 2) X (by decide +kernel) 1 rfl ?_
      refine g_iconst (n := 0) (x := (0 : Int32)) X (by decide +kernel) (by decide) ?_
      obtain ⟨c15, E⟩ := gd_E E
      obtain ⟨h16, eh16, E⟩ := lt_E E
      refine g_iast X (by decide +kernel) (ly hK px0 fl11_51 rfl) c15 eh16 ?_
      refine g_aload_n (n := 0) X (by decide +kernel) 0 rfl ?_
      refine g_getS X (by decide +kernel) fl11_63 px0 ?_
      refine g_iload_n (n := 2) X (by decide +kernel) 1 rfl ?_
      refine g_iconst (n := 0) (x := (0 : Int32)) X (by decide +kernel) (by decide) ?_
      obtain ⟨c17, E⟩ := gd_E E
      obtain ⟨h18, eh18, E⟩ := lt_E E
      refine g_iast X (by decide +kernel) (ly hK px0 fl11_63 rfl) c17 eh18 ?_
      obtain ⟨x2_19, ex2_19, E⟩ := lt_E E
      refine s_iinc (i := 2) (n := 1) (y := x2_19) X (by decide +kernel) 1 rfl (by decide) ex2_19 (ls_next (by decide) (Or.inr rfl) (ls_here ls_end)) ?_
      refine g_goto (off := -30) (tgt := 52) X (by decide +kernel) (by decide) ?_
      exact ih x2_19 h18  E
set_option maxHeartbeats 4000000 in
set_option maxRecDepth 20000 in
theorem c11_begin {sp : Sp} {K : Ly} {sz n : Nat} (hK : LyOk K) (o : Nat) (a1 : Int32) (h : Hp) (ho : K o = some (.inl 11)) {hf : Hp} (E : f11_begin K n o a1 h = some hf) : Con sp y11_begin prog_13_method_55_code 3 none 4 0 0 [.ref o, .int a1] sz K h none sz K hf := by
  refine Con.of (by decide) (Nat.le_of_ble_eq_true rfl) (fun Γ X _ => ?_)
  show Go Γ (0, 0) 0 [(0, .ref o), (1, .int a1)] [] sz K h
  unfold f11_begin at E
  refine g_aload_n (n := 0) X (by decide +kernel) 0 rfl ?_
  refine g_iload_n (n := 1) X (by decide +kernel) 1 rfl ?_
  obtain ⟨h2, e1, E⟩ := bp_E E
  refine g_callV0 (st := []) X [.int a1] (by decide +kernel) ml11_378 ho rfl rfl (by decide) (Nat.le_of_ble_eq_true rfl) (c11_layLinks hK o a1 h ho e1) ?_
  refine g_aload_n (n := 0) X (by decide +kernel) 0 rfl ?_
  refine g_iconst (n := 0) (x := (0 : Int32)) X (by decide +kernel) (by decide) ?_
  obtain ⟨h3, eh3, E⟩ := lt_E E
  refine g_putI X (by decide +kernel) fp11_351 ho eh3 ?_
  refine g_aload_n (n := 0) X (by decide +kernel) 0 rfl ?_
  refine g_iconst (n := 0) (x := (0 : Int32)) X (by decide +kernel) (by decide) ?_
  obtain ⟨h4, eh4, E⟩ := lt_E E
  refine g_putI X (by decide +kernel) fp11_384 ho eh4 ?_
  refine g_aload_n (n := 0) X (by decide +kernel) 0 rfl ?_
  refine g_iconst (n := 0) (x := (0 : Int32)) X (by decide +kernel) (by decide) ?_
  obtain ⟨h5, eh5, E⟩ := lt_E E
  refine g_putI X (by decide +kernel) fp11_387 ho eh5 ?_
  refine g_aload_n (n := 0) X (by decide +kernel) 0 rfl ?_
  refine g_iconst (n := 0) (x := (0 : Int32)) X (by decide +kernel) (by decide) ?_
  obtain ⟨h6, eh6, E⟩ := lt_E E
  refine g_putI X (by decide +kernel) fp11_390 ho eh6 ?_
  refine g_aload_n (n := 0) X (by decide +kernel) 0 rfl ?_
  refine g_iconst (n := 0) (x := (0 : Int32)) X (by decide +kernel) (by decide) ?_
  obtain ⟨h7, eh7, E⟩ := lt_E E
  refine g_putI X (by decide +kernel) fp11_393 ho eh7 ?_
  refine g_aload_n (n := 0) X (by decide +kernel) 0 rfl ?_
  refine g_iconst (n := 0) (x := (0 : Int32)) X (by decide +kernel) (by decide) ?_
  obtain ⟨h8, eh8, E⟩ := lt_E E
  refine g_putI X (by decide +kernel) fp11_396 ho eh8 ?_
  refine g_aload_n (n := 0) X (by decide +kernel) 0 rfl ?_
  refine g_iconst (n := 0) (x := (0 : Int32)) X (by decide +kernel) (by decide) ?_
  obtain ⟨h9, eh9, E⟩ := lt_E E
  refine g_putI X (by decide +kernel) fp11_399 ho eh9 ?_
  refine g_aload_n (n := 0) X (by decide +kernel) 0 rfl ?_
  refine g_iconst (n := 0) (x := (0 : Int32)) X (by decide +kernel) (by decide) ?_
  obtain ⟨h10, eh10, E⟩ := lt_E E
  refine g_putI X (by decide +kernel) fp11_402 ho eh10 ?_
  refine g_aload_n (n := 0) X (by decide +kernel) 0 rfl ?_
  refine g_iconst (n := 0) (x := (0 : Int32)) X (by decide +kernel) (by decide) ?_
  obtain ⟨h11, eh11, E⟩ := lt_E E
  refine g_putI X (by decide +kernel) fp11_405 ho eh11 ?_
  refine g_iconst (n := 0) (x := (0 : Int32)) X (by decide +kernel) (by decide) ?_
  refine s_istore_n (n := 2) (i := 2) X (by decide +kernel) rfl (by decide) rfl (ls_next (by decide) (Or.inr rfl) (ls_next (by decide) (Or.inr rfl) (ls_ins ls_end))) ?_
  refine g_sub [0, 2] rfl ?_
  exact w11_begin_L52 X hK o ho n (0 : Int32) h11 E
-- AskedNamesModel.sends
def f11_sends (K : Ly) (n : Nat) (o : Nat) (a1 : Int32) (a2 : Int32) (a3 : Int32) (a4 : Int32) (a5 : Int32) (a6 : Int32) (h : Hp) : Option Hp :=
    bp (f11_isUp K n o a2 a3 h) fun y2 =>
    if y2 = 0 then (
    lt (sI h o 70 ((h.1 o 70) + (1 : Int32))) fun h4 =>
    some h4)
    else (
    gd (inb (h.1 o 45) 4096) <|
    lt (sI h (o + 29) (h.1 o 45).toNatClampNeg a1) fun h6 =>
    gd (inb (h6.1 o 45) 4096) <|
    lt (sI h6 (o + 30) (h6.1 o 45).toNatClampNeg a2) fun h8 =>
    gd (inb (h8.1 o 45) 4096) <|
    lt (sI h8 (o + 31) (h8.1 o 45).toNatClampNeg a3) fun h10 =>
    gd (inb (h10.1 o 45) 4096) <|
    lt (sI h10 (o + 32) (h10.1 o 45).toNatClampNeg a4) fun h12 =>
    gd (inb (h12.1 o 45) 4096) <|
    lt (sI h12 (o + 33) (h12.1 o 45).toNatClampNeg a5) fun h14 =>
    gd (inb (h14.1 o 45) 4096) <|
    lt (sI h14 (o + 34) (h14.1 o 45).toNatClampNeg a6) fun h16 =>
    gd (inb (((6 : Int32) * a2) + a3) 36) <|
    bp (f11_linkAt K n o (h16.1 (o + 11) (((6 : Int32) * a2) + a3).toNatClampNeg) (2 : Int32) h16) fun y19 =>
    gd (inb (h16.1 o 45) 4096) <|
    lt (sI h16 (o + 35) (h16.1 o 45).toNatClampNeg ((h16.1 o 27) + y19)) fun h21 =>
    gd (inb (h21.1 o 45) 4096) <|
    lt (sI h21 (o + 36) (h21.1 o 45).toNatClampNeg (h21.1 o 71)) fun h23 =>
    gd (inb (h23.1 o 45) 4096) <|
    lt (sI h23 (o + 37) (h23.1 o 45).toNatClampNeg (h23.1 o 72)) fun h25 =>
    gd (inb (h25.1 o 45) 4096) <|
    lt (sI h25 (o + 38) (h25.1 o 45).toNatClampNeg (h25.1 o 73)) fun h27 =>
    gd (inb (h27.1 o 45) 4096) <|
    lt (sI h27 (o + 39) (h27.1 o 45).toNatClampNeg (h27.1 o 74)) fun h29 =>
    lt (sI h29 o 45 ((h29.1 o 45) + (1 : Int32))) fun h30 =>
    lt (sI h30 o 65 ((h30.1 o 65) + (1 : Int32))) fun h31 =>
    some h31)
set_option maxHeartbeats 4000000 in
set_option maxRecDepth 20000 in
theorem c11_sends {sp : Sp} {K : Ly} {sz n : Nat} (hK : LyOk K) (o : Nat) (a1 : Int32) (a2 : Int32) (a3 : Int32) (a4 : Int32) (a5 : Int32) (a6 : Int32) (h : Hp) (ho : K o = some (.inl 11)) {hf : Hp} (E : f11_sends K n o a1 a2 a3 a4 a5 a6 h = some hf) : Con sp y11_sends prog_13_method_56_code 7 none 3 0 0 [.ref o, .int a1, .int a2, .int a3, .int a4, .int a5, .int a6] sz K h none sz K hf := by
  refine Con.of (by decide) (Nat.le_of_ble_eq_true rfl) (fun Γ X _ => ?_)
  show Go Γ (0, 0) 0 [(0, .ref o), (1, .int a1), (2, .int a2), (3, .int a3), (4, .int a4), (5, .int a5), (6, .int a6)] [] sz K h
  unfold f11_sends at E
  refine g_aload_n (n := 0) X (by decide +kernel) 0 rfl ?_
  refine g_iload_n (n := 2) X (by decide +kernel) 2 rfl ?_
  refine g_iload_n (n := 3) X (by decide +kernel) 3 rfl ?_
  obtain ⟨y2, e1, E⟩ := bp_E E
  refine g_callV1 (st := []) X [.int a2, .int a3] (by decide +kernel) ml11_408 ho rfl rfl (by decide) (Nat.le_of_ble_eq_true rfl) (c11_isUp hK o a2 a3 h ho e1) ?_
  rcases it_E E with ⟨c3, E⟩ | ⟨c3, E⟩
  · refine g_if_ne_f (off := 14) (tgt := 20) X (by decide +kernel) (by decide) (fun z => z c3) ?_
    refine g_aload_n (n := 0) X (by decide +kernel) 0 rfl ?_
    refine g_dup X (by decide +kernel) rfl ?_
    refine g_getI X (by decide +kernel) fl11_405 ho ?_
    refine g_iconst (n := 1) (x := (1 : Int32)) X (by decide +kernel) (by decide) ?_
    refine g_iadd X (by decide +kernel) ?_
    obtain ⟨h4, eh4, E⟩ := lt_E E
    refine g_putI X (by decide +kernel) fp11_405 ho eh4 ?_
    obtain rfl := Option.some.inj E
    exact g_return X (by decide +kernel)
  · refine g_if_ne_t (off := 14) (tgt := 20) X (by decide +kernel) (by decide) c3 ?_
    refine g_aload_n (n := 0) X (by decide +kernel) 0 rfl ?_
    refine g_getS X (by decide +kernel) fl11_96 ho ?_
    refine g_aload_n (n := 0) X (by decide +kernel) 0 rfl ?_
    refine g_getI X (by decide +kernel) fl11_387 ho ?_
    refine g_iload_n (n := 1) X (by decide +kernel) 1 rfl ?_
    obtain ⟨c5, E⟩ := gd_E E
    obtain ⟨h6, eh6, E⟩ := lt_E E
    refine g_iast X (by decide +kernel) (ly hK ho fl11_96 rfl) c5 eh6 ?_
    refine g_aload_n (n := 0) X (by decide +kernel) 0 rfl ?_
    refine g_getS X (by decide +kernel) fl11_99 ho ?_
    refine g_aload_n (n := 0) X (by decide +kernel) 0 rfl ?_
    refine g_getI X (by decide +kernel) fl11_387 ho ?_
    refine g_iload_n (n := 2) X (by decide +kernel) 2 rfl ?_
    obtain ⟨c7, E⟩ := gd_E E
    obtain ⟨h8, eh8, E⟩ := lt_E E
    refine g_iast X (by decide +kernel) (ly hK ho fl11_99 rfl) c7 eh8 ?_
    refine g_aload_n (n := 0) X (by decide +kernel) 0 rfl ?_
    refine g_getS X (by decide +kernel) fl11_102 ho ?_
    refine g_aload_n (n := 0) X (by decide +kernel) 0 rfl ?_
    refine g_getI X (by decide +kernel) fl11_387 ho ?_
    refine g_iload_n (n := 3) X (by decide +kernel) 3 rfl ?_
    obtain ⟨c9, E⟩ := gd_E E
    obtain ⟨h10, eh10, E⟩ := lt_E E
    refine g_iast X (by decide +kernel) (ly hK ho fl11_102 rfl) c9 eh10 ?_
    refine g_aload_n (n := 0) X (by decide +kernel) 0 rfl ?_
    refine g_getS X (by decide +kernel) fl11_105 ho ?_
    refine g_aload_n (n := 0) X (by decide +kernel) 0 rfl ?_
    refine g_getI X (by decide +kernel) fl11_387 ho ?_
    refine g_iload (n := 4) X (by decide +kernel) 4 rfl ?_
    obtain ⟨c11, E⟩ := gd_E E
    obtain ⟨h12, eh12, E⟩ := lt_E E
    refine g_iast X (by decide +kernel) (ly hK ho fl11_105 rfl) c11 eh12 ?_
    refine g_aload_n (n := 0) X (by decide +kernel) 0 rfl ?_
    refine g_getS X (by decide +kernel) fl11_108 ho ?_
    refine g_aload_n (n := 0) X (by decide +kernel) 0 rfl ?_
    refine g_getI X (by decide +kernel) fl11_387 ho ?_
    refine g_iload (n := 5) X (by decide +kernel) 5 rfl ?_
    obtain ⟨c13, E⟩ := gd_E E
    obtain ⟨h14, eh14, E⟩ := lt_E E
    refine g_iast X (by decide +kernel) (ly hK ho fl11_108 rfl) c13 eh14 ?_
    refine g_aload_n (n := 0) X (by decide +kernel) 0 rfl ?_
    refine g_getS X (by decide +kernel) fl11_111 ho ?_
    refine g_aload_n (n := 0) X (by decide +kernel) 0 rfl ?_
    refine g_getI X (by decide +kernel) fl11_387 ho ?_
    refine g_iload (n := 6) X (by decide +kernel) 6 rfl ?_
    obtain ⟨c15, E⟩ := gd_E E
    obtain ⟨h16, eh16, E⟩ := lt_E E
    refine g_iast X (by decide +kernel) (ly hK ho fl11_111 rfl) c15 eh16 ?_
    refine g_aload_n (n := 0) X (by decide +kernel) 0 rfl ?_
    refine g_getS X (by decide +kernel) fl11_114 ho ?_
    refine g_aload_n (n := 0) X (by decide +kernel) 0 rfl ?_
    refine g_getI X (by decide +kernel) fl11_387 ho ?_
    refine g_aload_n (n := 0) X (by decide +kernel) 0 rfl ?_
    refine g_getI X (by decide +kernel) fl11_384 ho ?_
    refine g_aload_n (n := 0) X (by decide +kernel) 0 rfl ?_
    refine g_aload_n (n := 0) X (by decide +kernel) 0 rfl ?_
    refine g_getS X (by decide +kernel) fl11_41 ho ?_
    refine g_bipush (n := 6) (x := (6 : Int32)) X (by decide +kernel) (by decide) ?_
    refine g_iload_n (n := 2) X (by decide +kernel) 2 rfl ?_
    refine g_imul X (by decide +kernel) ?_
    refine g_iload_n (n := 3) X (by decide +kernel) 3 rfl ?_
    refine g_iadd X (by decide +kernel) ?_
    obtain ⟨c17, E⟩ := gd_E E
    refine g_iald X (by decide +kernel) (ly hK ho fl11_41 rfl) c17 ?_
    refine g_iconst (n := 2) (x := (2 : Int32)) X (by decide +kernel) (by decide) ?_
    obtain ⟨y19, e18, E⟩ := bp_E E
    refine g_callV1 (st := [.int (h16.1 o 27), .int (h16.1 o 45), .ref (o + 35)]) X [.int (h16.1 (o + 11) (((6 : Int32) * a2) + a3).toNatClampNeg), .int (2 : Int32)] (by decide +kernel) ml11_348 ho rfl rfl (by decide) (Nat.le_of_ble_eq_true rfl) (c11_linkAt hK o (h16.1 (o + 11) (((6 : Int32) * a2) + a3).toNatClampNeg) (2 : Int32) h16 ho e18) ?_
    refine g_iadd X (by decide +kernel) ?_
    obtain ⟨c20, E⟩ := gd_E E
    obtain ⟨h21, eh21, E⟩ := lt_E E
    refine g_iast X (by decide +kernel) (ly hK ho fl11_114 rfl) c20 eh21 ?_
    refine g_aload_n (n := 0) X (by decide +kernel) 0 rfl ?_
    refine g_getS X (by decide +kernel) fl11_117 ho ?_
    refine g_aload_n (n := 0) X (by decide +kernel) 0 rfl ?_
    refine g_getI X (by decide +kernel) fl11_387 ho ?_
    refine g_aload_n (n := 0) X (by decide +kernel) 0 rfl ?_
    refine g_getI X (by decide +kernel) fl11_411 ho ?_
    obtain ⟨c22, E⟩ := gd_E E
    obtain ⟨h23, eh23, E⟩ := lt_E E
    refine g_iast X (by decide +kernel) (ly hK ho fl11_117 rfl) c22 eh23 ?_
    refine g_aload_n (n := 0) X (by decide +kernel) 0 rfl ?_
    refine g_getS X (by decide +kernel) fl11_120 ho ?_
    refine g_aload_n (n := 0) X (by decide +kernel) 0 rfl ?_
    refine g_getI X (by decide +kernel) fl11_387 ho ?_
    refine g_aload_n (n := 0) X (by decide +kernel) 0 rfl ?_
    refine g_getI X (by decide +kernel) fl11_414 ho ?_
    obtain ⟨c24, E⟩ := gd_E E
    obtain ⟨h25, eh25, E⟩ := lt_E E
    refine g_iast X (by decide +kernel) (ly hK ho fl11_120 rfl) c24 eh25 ?_
    refine g_aload_n (n := 0) X (by decide +kernel) 0 rfl ?_
    refine g_getS X (by decide +kernel) fl11_123 ho ?_
    refine g_aload_n (n := 0) X (by decide +kernel) 0 rfl ?_
    refine g_getI X (by decide +kernel) fl11_387 ho ?_
    refine g_aload_n (n := 0) X (by decide +kernel) 0 rfl ?_
    refine g_getI X (by decide +kernel) fl11_417 ho ?_
    obtain ⟨c26, E⟩ := gd_E E
    obtain ⟨h27, eh27, E⟩ := lt_E E
    refine g_iast X (by decide +kernel) (ly hK ho fl11_123 rfl) c26 eh27 ?_
    refine g_aload_n (n := 0) X (by decide +kernel) 0 rfl ?_
    refine g_getS X (by decide +kernel) fl11_126 ho ?_
    refine g_aload_n (n := 0) X (by decide +kernel) 0 rfl ?_
    refine g_getI X (by decide +kernel) fl11_387 ho ?_
    refine g_aload_n (n := 0) X (by decide +kernel) 0 rfl ?_
    refine g_getI X (by decide +kernel) fl11_420 ho ?_
    obtain ⟨c28, E⟩ := gd_E E
    obtain ⟨h29, eh29, E⟩ := lt_E E
    refine g_iast X (by decide +kernel) (ly hK ho fl11_126 rfl) c28 eh29 ?_
    refine g_aload_n (n := 0) X (by decide +kernel) 0 rfl ?_
    refine g_dup X (by decide +kernel) rfl ?_
    refine g_getI X (by decide +kernel) fl11_387 ho ?_
    refine g_iconst (n := 1) (x := (1 : Int32)) X (by decide +kernel) (by decide) ?_
    refine g_iadd X (by decide +kernel) ?_
    obtain ⟨h30, eh30, E⟩ := lt_E E
    refine g_putI X (by decide +kernel) fp11_387 ho eh30 ?_
    refine g_aload_n (n := 0) X (by decide +kernel) 0 rfl ?_
    refine g_dup X (by decide +kernel) rfl ?_
    refine g_getI X (by decide +kernel) fl11_390 ho ?_
    refine g_iconst (n := 1) (x := (1 : Int32)) X (by decide +kernel) (by decide) ?_
    refine g_iadd X (by decide +kernel) ?_
    obtain ⟨h31, eh31, E⟩ := lt_E E
    refine g_putI X (by decide +kernel) fp11_390 ho eh31 ?_
    obtain rfl := Option.some.inj E
    exact g_return X (by decide +kernel)
-- AskedNamesModel.gets
def f11_gets (K : Ly) (n : Nat) (o : Nat) (a1 : Int32) (h : Hp) : Option Hp :=
    gd (inb a1 64) <|
    lt (sI h (o + 40) a1.toNatClampNeg (1 : Int32)) fun h2 =>
    gd (inb a1 64) <|
    lt (sI h2 (o + 41) a1.toNatClampNeg (h2.1 o 27)) fun h4 =>
    gd (inb a1 64) <|
    lt (sI h4 (o + 43) a1.toNatClampNeg (h4.1 o 73)) fun h6 =>
    gd (inb a1 64) <|
    lt (sI h6 (o + 44) a1.toNatClampNeg (h6.1 o 74)) fun h8 =>
    some h8
set_option maxHeartbeats 4000000 in
set_option maxRecDepth 20000 in
theorem c11_gets {sp : Sp} {K : Ly} {sz n : Nat} (hK : LyOk K) (o : Nat) (a1 : Int32) (h : Hp) (ho : K o = some (.inl 11)) {hf : Hp} (E : f11_gets K n o a1 h = some hf) : Con sp y11_gets prog_13_method_57_code 2 none 1 0 0 [.ref o, .int a1] sz K h none sz K hf := by
  refine Con.of (by decide) (Nat.le_of_ble_eq_true rfl) (fun Γ X _ => ?_)
  show Go Γ (0, 0) 0 [(0, .ref o), (1, .int a1)] [] sz K h
  unfold f11_gets at E
  refine g_aload_n (n := 0) X (by decide +kernel) 0 rfl ?_
  refine g_getS X (by decide +kernel) fl11_129 ho ?_
  refine g_iload_n (n := 1) X (by decide +kernel) 1 rfl ?_
  refine g_iconst (n := 1) (x := (1 : Int32)) X (by decide +kernel) (by decide) ?_
  obtain ⟨c1, E⟩ := gd_E E
  obtain ⟨h2, eh2, E⟩ := lt_E E
  refine g_iast X (by decide +kernel) (ly hK ho fl11_129 rfl) c1 eh2 ?_
  refine g_aload_n (n := 0) X (by decide +kernel) 0 rfl ?_
  refine g_getS X (by decide +kernel) fl11_132 ho ?_
  refine g_iload_n (n := 1) X (by decide +kernel) 1 rfl ?_
  refine g_aload_n (n := 0) X (by decide +kernel) 0 rfl ?_
  refine g_getI X (by decide +kernel) fl11_384 ho ?_
  obtain ⟨c3, E⟩ := gd_E E
  obtain ⟨h4, eh4, E⟩ := lt_E E
  refine g_iast X (by decide +kernel) (ly hK ho fl11_132 rfl) c3 eh4 ?_
  refine g_aload_n (n := 0) X (by decide +kernel) 0 rfl ?_
  refine g_getS X (by decide +kernel) fl11_138 ho ?_
  refine g_iload_n (n := 1) X (by decide +kernel) 1 rfl ?_
  refine g_aload_n (n := 0) X (by decide +kernel) 0 rfl ?_
  refine g_getI X (by decide +kernel) fl11_417 ho ?_
  obtain ⟨c5, E⟩ := gd_E E
  obtain ⟨h6, eh6, E⟩ := lt_E E
  refine g_iast X (by decide +kernel) (ly hK ho fl11_138 rfl) c5 eh6 ?_
  refine g_aload_n (n := 0) X (by decide +kernel) 0 rfl ?_
  refine g_getS X (by decide +kernel) fl11_141 ho ?_
  refine g_iload_n (n := 1) X (by decide +kernel) 1 rfl ?_
  refine g_aload_n (n := 0) X (by decide +kernel) 0 rfl ?_
  refine g_getI X (by decide +kernel) fl11_420 ho ?_
  obtain ⟨c7, E⟩ := gd_E E
  obtain ⟨h8, eh8, E⟩ := lt_E E
  refine g_iast X (by decide +kernel) (ly hK ho fl11_141 rfl) c7 eh8 ?_
  obtain rfl := Option.some.inj E
  exact g_return X (by decide +kernel)
-- AskedNamesModel.refused
def f11_refused (K : Ly) (n : Nat) (o : Nat) (a1 : Int32) (h : Hp) : Option Hp :=
    gd (inb a1 64) <|
    lt (sI h (o + 40) a1.toNatClampNeg (2 : Int32)) fun h2 =>
    gd (inb a1 64) <|
    lt (sI h2 (o + 41) a1.toNatClampNeg (h2.1 o 27)) fun h4 =>
    gd (inb a1 64) <|
    lt (sI h4 (o + 45) a1.toNatClampNeg (h4.1 o 71)) fun h6 =>
    gd (inb a1 64) <|
    lt (sI h6 (o + 46) a1.toNatClampNeg (h6.1 o 72)) fun h8 =>
    gd (inb a1 64) <|
    lt (sI h8 (o + 47) a1.toNatClampNeg (h8.1 o 73)) fun h10 =>
    some h10
set_option maxHeartbeats 4000000 in
set_option maxRecDepth 20000 in
theorem c11_refused {sp : Sp} {K : Ly} {sz n : Nat} (hK : LyOk K) (o : Nat) (a1 : Int32) (h : Hp) (ho : K o = some (.inl 11)) {hf : Hp} (E : f11_refused K n o a1 h = some hf) : Con sp y11_refused prog_13_method_58_code 2 none 1 0 0 [.ref o, .int a1] sz K h none sz K hf := by
  refine Con.of (by decide) (Nat.le_of_ble_eq_true rfl) (fun Γ X _ => ?_)
  show Go Γ (0, 0) 0 [(0, .ref o), (1, .int a1)] [] sz K h
  unfold f11_refused at E
  refine g_aload_n (n := 0) X (by decide +kernel) 0 rfl ?_
  refine g_getS X (by decide +kernel) fl11_129 ho ?_
  refine g_iload_n (n := 1) X (by decide +kernel) 1 rfl ?_
  refine g_iconst (n := 2) (x := (2 : Int32)) X (by decide +kernel) (by decide) ?_
  obtain ⟨c1, E⟩ := gd_E E
  obtain ⟨h2, eh2, E⟩ := lt_E E
  refine g_iast X (by decide +kernel) (ly hK ho fl11_129 rfl) c1 eh2 ?_
  refine g_aload_n (n := 0) X (by decide +kernel) 0 rfl ?_
  refine g_getS X (by decide +kernel) fl11_132 ho ?_
  refine g_iload_n (n := 1) X (by decide +kernel) 1 rfl ?_
  refine g_aload_n (n := 0) X (by decide +kernel) 0 rfl ?_
  refine g_getI X (by decide +kernel) fl11_384 ho ?_
  obtain ⟨c3, E⟩ := gd_E E
  obtain ⟨h4, eh4, E⟩ := lt_E E
  refine g_iast X (by decide +kernel) (ly hK ho fl11_132 rfl) c3 eh4 ?_
  refine g_aload_n (n := 0) X (by decide +kernel) 0 rfl ?_
  refine g_getS X (by decide +kernel) fl11_144 ho ?_
  refine g_iload_n (n := 1) X (by decide +kernel) 1 rfl ?_
  refine g_aload_n (n := 0) X (by decide +kernel) 0 rfl ?_
  refine g_getI X (by decide +kernel) fl11_411 ho ?_
  obtain ⟨c5, E⟩ := gd_E E
  obtain ⟨h6, eh6, E⟩ := lt_E E
  refine g_iast X (by decide +kernel) (ly hK ho fl11_144 rfl) c5 eh6 ?_
  refine g_aload_n (n := 0) X (by decide +kernel) 0 rfl ?_
  refine g_getS X (by decide +kernel) fl11_147 ho ?_
  refine g_iload_n (n := 1) X (by decide +kernel) 1 rfl ?_
  refine g_aload_n (n := 0) X (by decide +kernel) 0 rfl ?_
  refine g_getI X (by decide +kernel) fl11_414 ho ?_
  obtain ⟨c7, E⟩ := gd_E E
  obtain ⟨h8, eh8, E⟩ := lt_E E
  refine g_iast X (by decide +kernel) (ly hK ho fl11_147 rfl) c7 eh8 ?_
  refine g_aload_n (n := 0) X (by decide +kernel) 0 rfl ?_
  refine g_getS X (by decide +kernel) fl11_150 ho ?_
  refine g_iload_n (n := 1) X (by decide +kernel) 1 rfl ?_
  refine g_aload_n (n := 0) X (by decide +kernel) 0 rfl ?_
  refine g_getI X (by decide +kernel) fl11_417 ho ?_
  obtain ⟨c9, E⟩ := gd_E E
  obtain ⟨h10, eh10, E⟩ := lt_E E
  refine g_iast X (by decide +kernel) (ly hK ho fl11_150 rfl) c9 eh10 ?_
  obtain rfl := Option.some.inj E
  exact g_return X (by decide +kernel)
-- AskedNamesModel.dataTo
def f11_dataTo (K : Ly) (n : Nat) (o : Nat) (a1 : Int32) (a2 : Int32) (a3 : Int32) (h : Hp) : Option Hp :=
    if a2 < (100 : Int32) then (
    bp (f11_sends K n o (1 : Int32) a1 a2 a3 (0 : Int32) (0 : Int32) h) fun h3 =>
    some h3)
    else (
    bp (f11_gets K n o (a2 - (100 : Int32)) h) fun h5 =>
    some h5)
set_option maxHeartbeats 4000000 in
set_option maxRecDepth 20000 in
theorem c11_dataTo {sp : Sp} {K : Ly} {sz n : Nat} (hK : LyOk K) (o : Nat) (a1 : Int32) (a2 : Int32) (a3 : Int32) (h : Hp) (ho : K o = some (.inl 11)) {hf : Hp} (E : f11_dataTo K n o a1 a2 a3 h = some hf) : Con sp y11_dataTo prog_13_method_59_code 4 none 4 0 0 [.ref o, .int a1, .int a2, .int a3] sz K h none sz K hf := by
  refine Con.of (by decide) (Nat.le_of_ble_eq_true rfl) (fun Γ X _ => ?_)
  show Go Γ (0, 0) 0 [(0, .ref o), (1, .int a1), (2, .int a2), (3, .int a3)] [] sz K h
  unfold f11_dataTo at E
  refine g_iload_n (n := 2) X (by decide +kernel) 2 rfl ?_
  refine g_bipush (n := 100) (x := (100 : Int32)) X (by decide +kernel) (by decide) ?_
  rcases it_E E with ⟨c1, E⟩ | ⟨c1, E⟩
  · refine g_icmp_lt_t (off := 14) (tgt := 17) X (by decide +kernel) (by decide) c1 ?_
    refine g_aload_n (n := 0) X (by decide +kernel) 0 rfl ?_
    refine g_iconst (n := 1) (x := (1 : Int32)) X (by decide +kernel) (by decide) ?_
    refine g_iload_n (n := 1) X (by decide +kernel) 1 rfl ?_
    refine g_iload_n (n := 2) X (by decide +kernel) 2 rfl ?_
    refine g_iload_n (n := 3) X (by decide +kernel) 3 rfl ?_
    refine g_iconst (n := 0) (x := (0 : Int32)) X (by decide +kernel) (by decide) ?_
    refine g_iconst (n := 0) (x := (0 : Int32)) X (by decide +kernel) (by decide) ?_
    obtain ⟨h3, e2, E⟩ := bp_E E
    refine g_callV0 (st := []) X [.int (1 : Int32), .int a1, .int a2, .int a3, .int (0 : Int32), .int (0 : Int32)] (by decide +kernel) ml11_426 ho rfl rfl (by decide) (Nat.le_of_ble_eq_true rfl) (c11_sends hK o (1 : Int32) a1 a2 a3 (0 : Int32) (0 : Int32) h ho e2) ?_
    obtain rfl := Option.some.inj E
    exact g_return X (by decide +kernel)
  · refine g_icmp_lt_f (off := 14) (tgt := 17) X (by decide +kernel) (by decide) c1 ?_
    refine g_aload_n (n := 0) X (by decide +kernel) 0 rfl ?_
    refine g_iload_n (n := 2) X (by decide +kernel) 2 rfl ?_
    refine g_bipush (n := 100) (x := (100 : Int32)) X (by decide +kernel) (by decide) ?_
    refine g_isub X (by decide +kernel) ?_
    obtain ⟨h5, e4, E⟩ := bp_E E
    refine g_callV0 (st := []) X [.int (a2 - (100 : Int32))] (by decide +kernel) ml11_423 ho rfl rfl (by decide) (Nat.le_of_ble_eq_true rfl) (c11_gets hK o (a2 - (100 : Int32)) h ho e4) ?_
    refine g_goto (off := 13) (tgt := 27) X (by decide +kernel) (by decide) ?_
    obtain rfl := Option.some.inj E
    exact g_return X (by decide +kernel)
-- AskedNamesModel.nackTo
def f11_nackTo (K : Ly) (n : Nat) (o : Nat) (a1 : Int32) (a2 : Int32) (a3 : Int32) (a4 : Int32) (h : Hp) : Option Hp :=
    if a2 < (100 : Int32) then (
    bp (f11_sends K n o (2 : Int32) a1 a2 a3 a4 (0 : Int32) h) fun h3 =>
    some h3)
    else (
    bp (f11_refused K n o (a2 - (100 : Int32)) h) fun h5 =>
    some h5)
set_option maxHeartbeats 4000000 in
set_option maxRecDepth 20000 in
theorem c11_nackTo {sp : Sp} {K : Ly} {sz n : Nat} (hK : LyOk K) (o : Nat) (a1 : Int32) (a2 : Int32) (a3 : Int32) (a4 : Int32) (h : Hp) (ho : K o = some (.inl 11)) {hf : Hp} (E : f11_nackTo K n o a1 a2 a3 a4 h = some hf) : Con sp y11_nackTo prog_13_method_60_code 5 none 4 0 0 [.ref o, .int a1, .int a2, .int a3, .int a4] sz K h none sz K hf := by
  refine Con.of (by decide) (Nat.le_of_ble_eq_true rfl) (fun Γ X _ => ?_)
  show Go Γ (0, 0) 0 [(0, .ref o), (1, .int a1), (2, .int a2), (3, .int a3), (4, .int a4)] [] sz K h
  unfold f11_nackTo at E
  refine g_iload_n (n := 2) X (by decide +kernel) 2 rfl ?_
  refine g_bipush (n := 100) (x := (100 : Int32)) X (by decide +kernel) (by decide) ?_
  rcases it_E E with ⟨c1, E⟩ | ⟨c1, E⟩
  · refine g_icmp_lt_t (off := 14) (tgt := 17) X (by decide +kernel) (by decide) c1 ?_
    refine g_aload_n (n := 0) X (by decide +kernel) 0 rfl ?_
    refine g_iconst (n := 2) (x := (2 : Int32)) X (by decide +kernel) (by decide) ?_
    refine g_iload_n (n := 1) X (by decide +kernel) 1 rfl ?_
    refine g_iload_n (n := 2) X (by decide +kernel) 2 rfl ?_
    refine g_iload_n (n := 3) X (by decide +kernel) 3 rfl ?_
    refine g_iload (n := 4) X (by decide +kernel) 4 rfl ?_
    refine g_iconst (n := 0) (x := (0 : Int32)) X (by decide +kernel) (by decide) ?_
    obtain ⟨h3, e2, E⟩ := bp_E E
    refine g_callV0 (st := []) X [.int (2 : Int32), .int a1, .int a2, .int a3, .int a4, .int (0 : Int32)] (by decide +kernel) ml11_426 ho rfl rfl (by decide) (Nat.le_of_ble_eq_true rfl) (c11_sends hK o (2 : Int32) a1 a2 a3 a4 (0 : Int32) h ho e2) ?_
    obtain rfl := Option.some.inj E
    exact g_return X (by decide +kernel)
  · refine g_icmp_lt_f (off := 14) (tgt := 17) X (by decide +kernel) (by decide) c1 ?_
    refine g_aload_n (n := 0) X (by decide +kernel) 0 rfl ?_
    refine g_iload_n (n := 2) X (by decide +kernel) 2 rfl ?_
    refine g_bipush (n := 100) (x := (100 : Int32)) X (by decide +kernel) (by decide) ?_
    refine g_isub X (by decide +kernel) ?_
    obtain ⟨h5, e4, E⟩ := bp_E E
    refine g_callV0 (st := []) X [.int (a2 - (100 : Int32))] (by decide +kernel) ml11_430 ho rfl rfl (by decide) (Nat.le_of_ble_eq_true rfl) (c11_refused hK o (a2 - (100 : Int32)) h ho e4) ?_
    refine g_goto (off := 14) (tgt := 28) X (by decide +kernel) (by decide) ?_
    obtain rfl := Option.some.inj E
    exact g_return X (by decide +kernel)
-- AskedNamesModel.firstNack
def f11_firstNack (K : Ly) (n : Nat) (o : Nat) (a1 : Int32) (a2 : Int32) (a3 : Int32) (a4 : Int32) (a5 : Int32) (h : Hp) : Option Hp :=
    lt (sI h o 71 (1 : Int32)) fun h1 =>
    lt (sI h1 o 72 a5) fun h2 =>
    lt (sI h2 o 73 a1) fun h3 =>
    lt (sI h3 o 74 (0 : Int32)) fun h4 =>
    bp (f11_nackTo K n o a1 a2 a3 a4 h4) fun h6 =>
    some h6
set_option maxHeartbeats 4000000 in
set_option maxRecDepth 20000 in
theorem c11_firstNack {sp : Sp} {K : Ly} {sz n : Nat} (hK : LyOk K) (o : Nat) (a1 : Int32) (a2 : Int32) (a3 : Int32) (a4 : Int32) (a5 : Int32) (h : Hp) (ho : K o = some (.inl 11)) {hf : Hp} (E : f11_firstNack K n o a1 a2 a3 a4 a5 h = some hf) : Con sp y11_firstNack prog_13_method_61_code 6 none 5 0 0 [.ref o, .int a1, .int a2, .int a3, .int a4, .int a5] sz K h none sz K hf := by
  refine Con.of (by decide) (Nat.le_of_ble_eq_true rfl) (fun Γ X _ => ?_)
  show Go Γ (0, 0) 0 [(0, .ref o), (1, .int a1), (2, .int a2), (3, .int a3), (4, .int a4), (5, .int a5)] [] sz K h
  unfold f11_firstNack at E
  refine g_aload_n (n := 0) X (by decide +kernel) 0 rfl ?_
  refine g_iconst (n := 1) (x := (1 : Int32)) X (by decide +kernel) (by decide) ?_
  obtain ⟨h1, eh1, E⟩ := lt_E E
  refine g_putI X (by decide +kernel) fp11_411 ho eh1 ?_
  refine g_aload_n (n := 0) X (by decide +kernel) 0 rfl ?_
  refine g_iload (n := 5) X (by decide +kernel) 5 rfl ?_
  obtain ⟨h2, eh2, E⟩ := lt_E E
  refine g_putI X (by decide +kernel) fp11_414 ho eh2 ?_
  refine g_aload_n (n := 0) X (by decide +kernel) 0 rfl ?_
  refine g_iload_n (n := 1) X (by decide +kernel) 1 rfl ?_
  obtain ⟨h3, eh3, E⟩ := lt_E E
  refine g_putI X (by decide +kernel) fp11_417 ho eh3 ?_
  refine g_aload_n (n := 0) X (by decide +kernel) 0 rfl ?_
  refine g_iconst (n := 0) (x := (0 : Int32)) X (by decide +kernel) (by decide) ?_
  obtain ⟨h4, eh4, E⟩ := lt_E E
  refine g_putI X (by decide +kernel) fp11_420 ho eh4 ?_
  refine g_aload_n (n := 0) X (by decide +kernel) 0 rfl ?_
  refine g_iload_n (n := 1) X (by decide +kernel) 1 rfl ?_
  refine g_iload_n (n := 2) X (by decide +kernel) 2 rfl ?_
  refine g_iload_n (n := 3) X (by decide +kernel) 3 rfl ?_
  refine g_iload (n := 4) X (by decide +kernel) 4 rfl ?_
  obtain ⟨h6, e5, E⟩ := bp_E E
  refine g_callV0 (st := []) X [.int a1, .int a2, .int a3, .int a4] (by decide +kernel) ml11_433 ho rfl rfl (by decide) (Nat.le_of_ble_eq_true rfl) (c11_nackTo hK o a1 a2 a3 a4 h4 ho e5) ?_
  obtain rfl := Option.some.inj E
  exact g_return X (by decide +kernel)
-- AskedNamesModel.storedAt
def f11_storedAt_L2 (K : Ly) (n : Nat) (x0 : Nat) (x1 : Int32) (x2 : Int32) (h : Hp)  : Nat → Int32 → Option (Int32)
  | 0, _ => none
  | k + 1, x3 =>
    gd (inb x1 6) <|
    if (h.1 (x0 + 14) x1.toNatClampNeg) ≤ x3 then (
    some (-1 : Int32))
    else (
    gd (inb (((6 : Int32) * x1) + x3) 36) <|
    if (h.1 (x0 + 15) (((6 : Int32) * x1) + x3).toNatClampNeg) = x2 then (
    some x3)
    else (
    lt (x3 + (1 : Int32)) fun x3_5 =>
    f11_storedAt_L2 K n x0 x1 x2 h  k x3_5))
def f11_storedAt (K : Ly) (n : Nat) (o : Nat) (a1 : Int32) (a2 : Int32) (h : Hp) : Option (Int32) :=
    f11_storedAt_L2 K n o a1 a2 h n (0 : Int32)
set_option maxHeartbeats 4000000 in
set_option maxRecDepth 20000 in
theorem w11_storedAt_L2 {Γ : CT} {sp : Sp} {K : Ly} {sz n : Nat} {v : Int32} {h : Hp}  (X : Ok Γ sp prog_13_method_62_code Rc11 4 (some (.int)) 1 (some (.int v)) sz K h) (hK : LyOk K) (x0 : Nat) (x1 : Int32) (x2 : Int32)  (px0 : K x0 = some (.inl 11))  : ∀ (k : Nat) (x3 : Int32), f11_storedAt_L2 K n x0 x1 x2 h  k x3 = some v → Go Γ (0, 0) 2 [(0, .ref x0), (1, .int x1), (2, .int x2), (3, .int x3)] [] sz K h := by
  intro k
  induction k with
  | zero => intro x3 E; cases E
  | succ k ih =>
    intro x3 E
    unfold f11_storedAt_L2 at E
    refine g_iload_n (n := 3) X (by decide +kernel) 3 rfl ?_
    refine g_aload_n (n := 0) X (by decide +kernel) 0 rfl ?_
    refine g_getS X (by decide +kernel) fl11_51 px0 ?_
    refine g_iload_n (n := 1) X (by decide +kernel) 1 rfl ?_
    obtain ⟨c1, E⟩ := gd_E E
    refine g_iald X (by decide +kernel) (ly hK px0 fl11_51 rfl) c1 ?_
    rcases it_E E with ⟨c2, E⟩ | ⟨c2, E⟩
    · refine g_icmp_ge_t (off := 26) (tgt := 35) X (by decide +kernel) (by decide) c2 ?_
      refine g_iconst (n := -1) (x := (-1 : Int32)) X (by decide +kernel) (by decide) ?_
      obtain rfl := Option.some.inj E
      exact g_ireturn X (by decide +kernel)
    · refine g_icmp_ge_f (off := 26) (tgt := 35) X (by decide +kernel) (by decide) c2 ?_
      refine g_aload_n (n := 0) X (by decide +kernel) 0 rfl ?_
      refine g_getS X (by decide +kernel) fl11_54 px0 ?_
      refine g_bipush (n := 6) (x := (6 : Int32)) X (by decide +kernel) (by decide) ?_
      refine g_iload_n (n := 1) X (by decide +kernel) 1 rfl ?_
      refine g_imul X (by decide +kernel) ?_
      refine g_iload_n (n := 3) X (by decide +kernel) 3 rfl ?_
      refine g_iadd X (by decide +kernel) ?_
      obtain ⟨c3, E⟩ := gd_E E
      refine g_iald X (by decide +kernel) (ly hK px0 fl11_54 rfl) c3 ?_
      refine g_iload_n (n := 2) X (by decide +kernel) 2 rfl ?_
      rcases it_E E with ⟨c4, E⟩ | ⟨c4, E⟩
      · refine g_icmp_ne_f (off := 5) (tgt := 29) X (by decide +kernel) (by decide) (fun z => z c4) ?_
        refine g_iload_n (n := 3) X (by decide +kernel) 3 rfl ?_
        obtain rfl := Option.some.inj E
        exact g_ireturn X (by decide +kernel)
      · refine g_icmp_ne_t (off := 5) (tgt := 29) X (by decide +kernel) (by decide) c4 ?_
        obtain ⟨x3_5, ex3_5, E⟩ := lt_E E
        refine s_iinc (i := 3) (n := 1) (y := x3_5) X (by decide +kernel) 3 rfl (by decide) ex3_5 (ls_next (by decide) (Or.inr rfl) (ls_next (by decide) (Or.inr rfl) (ls_next (by decide) (Or.inr rfl) (ls_here ls_end)))) ?_
        refine g_goto (off := -30) (tgt := 2) X (by decide +kernel) (by decide) ?_
        exact ih x3_5  E
set_option maxHeartbeats 4000000 in
set_option maxRecDepth 20000 in
theorem c11_storedAt {sp : Sp} {K : Ly} {sz n : Nat} (hK : LyOk K) (o : Nat) (a1 : Int32) (a2 : Int32) (h : Hp) (ho : K o = some (.inl 11)) {v : Int32} (E : f11_storedAt K n o a1 a2 h = some v) : Con sp y11_storedAt prog_13_method_62_code 4 (some (.int)) 1 0 0 [.ref o, .int a1, .int a2] sz K h (some (.int v)) sz K h := by
  refine Con.of (by decide) (Nat.le_of_ble_eq_true rfl) (fun Γ X _ => ?_)
  show Go Γ (0, 0) 0 [(0, .ref o), (1, .int a1), (2, .int a2)] [] sz K h
  unfold f11_storedAt at E
  refine g_iconst (n := 0) (x := (0 : Int32)) X (by decide +kernel) (by decide) ?_
  refine s_istore_n (n := 3) (i := 3) X (by decide +kernel) rfl (by decide) rfl (ls_next (by decide) (Or.inr rfl) (ls_next (by decide) (Or.inr rfl) (ls_next (by decide) (Or.inr rfl) (ls_ins ls_end)))) ?_
  exact w11_storedAt_L2 X hK o a1 a2 ho n (0 : Int32) E
-- AskedNamesModel.takesOut
def f11_takesOut_L12 (K : Ly) (n : Nat) (x0 : Nat) (x1 : Int32)   : Nat → Int32 → Hp → Option Hp
  | 0, _, _ => none
  | k + 1, x3, h =>
    gd (inb x1 6) <|
    if (h.1 (x0 + 14) x1.toNatClampNeg) ≤ x3 then (
    some h)
    else (
    gd (inb ((((6 : Int32) * x1) + x3) + (1 : Int32)) 36) <|
    gd (inb (((6 : Int32) * x1) + x3) 36) <|
    lt (sI h (x0 + 15) (((6 : Int32) * x1) + x3).toNatClampNeg (h.1 (x0 + 15) ((((6 : Int32) * x1) + x3) + (1 : Int32)).toNatClampNeg)) fun h8 =>
    gd (inb ((((6 : Int32) * x1) + x3) + (1 : Int32)) 36) <|
    gd (inb (((6 : Int32) * x1) + x3) 36) <|
    lt (sI h8 (x0 + 16) (((6 : Int32) * x1) + x3).toNatClampNeg (h8.1 (x0 + 16) ((((6 : Int32) * x1) + x3) + (1 : Int32)).toNatClampNeg)) fun h11 =>
    gd (inb ((((6 : Int32) * x1) + x3) + (1 : Int32)) 36) <|
    gd (inb (((6 : Int32) * x1) + x3) 36) <|
    lt (sI h11 (x0 + 17) (((6 : Int32) * x1) + x3).toNatClampNeg (h11.1 (x0 + 17) ((((6 : Int32) * x1) + x3) + (1 : Int32)).toNatClampNeg)) fun h14 =>
    lt (x3 + (1 : Int32)) fun x3_15 =>
    f11_takesOut_L12 K n x0 x1  k x3_15 h14)
def f11_takesOut (K : Ly) (n : Nat) (o : Nat) (a1 : Int32) (a2 : Int32) (h : Hp) : Option Hp :=
    gd (inb a1 6) <|
    gd (inb a1 6) <|
    lt (sI h (o + 14) a1.toNatClampNeg ((h.1 (o + 14) a1.toNatClampNeg) - (1 : Int32))) fun h3 =>
    f11_takesOut_L12 K n o a1 n a2 h3
set_option maxHeartbeats 4000000 in
set_option maxRecDepth 20000 in
theorem w11_takesOut_L12 {Γ : CT} {sp : Sp} {K : Ly} {sz n : Nat} {hf : Hp}  (X : Ok Γ sp prog_13_method_63_code Rc11 4 none 1 none sz K hf) (hK : LyOk K) (x0 : Nat) (x1 : Int32)  (px0 : K x0 = some (.inl 11))  : ∀ (k : Nat) (x3 : Int32) (h : Hp), f11_takesOut_L12 K n x0 x1  k x3 h = some hf → Go Γ (0, 0) 12 [(0, .ref x0), (1, .int x1), (3, .int x3)] [] sz K h := by
  intro k
  induction k with
  | zero => intro x3 h E; cases E
  | succ k ih =>
    intro x3 h E
    unfold f11_takesOut_L12 at E
    refine g_iload_n (n := 3) X (by decide +kernel) 2 rfl ?_
    refine g_aload_n (n := 0) X (by decide +kernel) 0 rfl ?_
    refine g_getS X (by decide +kernel) fl11_51 px0 ?_
    refine g_iload_n (n := 1) X (by decide +kernel) 1 rfl ?_
    obtain ⟨c4, E⟩ := gd_E E
    refine g_iald X (by decide +kernel) (ly hK px0 fl11_51 rfl) c4 ?_
    rcases it_E E with ⟨c5, E⟩ | ⟨c5, E⟩
    · refine g_icmp_ge_t (off := 81) (tgt := 100) X (by decide +kernel) (by decide) c5 ?_
      obtain rfl := Option.some.inj E
      exact g_return X (by decide +kernel)
    · refine g_icmp_ge_f (off := 81) (tgt := 100) X (by decide +kernel) (by decide) c5 ?_
      refine g_aload_n (n := 0) X (by decide +kernel) 0 rfl ?_
      refine g_getS X (by decide +kernel) fl11_54 px0 ?_
      refine g_bipush (n := 6) (x := (6 : Int32)) X (by decide +kernel) (by decide) ?_
      refine g_iload_n (n := 1) X (by decide +kernel) 1 rfl ?_
      refine g_imul X (by decide +kernel) ?_
      refine g_iload_n (n := 3) X (by decide +kernel) 2 rfl ?_
      refine g_iadd X (by decide +kernel) ?_
      refine g_aload_n (n := 0) X (by decide +kernel) 0 rfl ?_
      refine g_getS X (by decide +kernel) fl11_54 px0 ?_
      refine g_bipush (n := 6) (x := (6 : Int32)) X (by decide +kernel) (by decide) ?_
      refine g_iload_n (n := 1) X (by decide +kernel) 1 rfl ?_
      refine g_imul X (by decide +kernel) ?_
      refine g_iload_n (n := 3) X (by decide +kernel) 2 rfl ?_
      refine g_iadd X (by decide +kernel) ?_
      refine g_iconst (n := 1) (x := (1 : Int32)) X (by decide +kernel) (by decide) ?_
      refine g_iadd X (by decide +kernel) ?_
      obtain ⟨c6, E⟩ := gd_E E
      refine g_iald X (by decide +kernel) (ly hK px0 fl11_54 rfl) c6 ?_
      obtain ⟨c7, E⟩ := gd_E E
      obtain ⟨h8, eh8, E⟩ := lt_E E
      refine g_iast X (by decide +kernel) (ly hK px0 fl11_54 rfl) c7 eh8 ?_
      refine g_aload_n (n := 0) X (by decide +kernel) 0 rfl ?_
      refine g_getS X (by decide +kernel) fl11_57 px0 ?_
      refine g_bipush (n := 6) (x := (6 : Int32)) X (by decide +kernel) (by decide) ?_
      refine g_iload_n (n := 1) X (by decide +kernel) 1 rfl ?_
      refine g_imul X (by decide +kernel) ?_
      refine g_iload_n (n := 3) X (by decide +kernel) 2 rfl ?_
      refine g_iadd X (by decide +kernel) ?_
      refine g_aload_n (n := 0) X (by decide +kernel) 0 rfl ?_
      refine g_getS X (by decide +kernel) fl11_57 px0 ?_
      refine g_bipush (n := 6) (x := (6 : Int32)) X (by decide +kernel) (by decide) ?_
      refine g_iload_n (n := 1) X (by decide +kernel) 1 rfl ?_
      refine g_imul X (by decide +kernel) ?_
      refine g_iload_n (n := 3) X (by decide +kernel) 2 rfl ?_
      refine g_iadd X (by decide +kernel) ?_
      refine g_iconst (n := 1) (x := (1 : Int32)) X (by decide +kernel) (by decide) ?_
      refine g_iadd X (by decide +kernel) ?_
      obtain ⟨c9, E⟩ := gd_E E
      refine g_iald X (by decide +kernel) (ly hK px0 fl11_57 rfl) c9 ?_
      obtain ⟨c10, E⟩ := gd_E E
      obtain ⟨h11, eh11, E⟩ := lt_E E
      refine g_iast X (by decide +kernel) (ly hK px0 fl11_57 rfl) c10 eh11 ?_
      refine g_aload_n (n := 0) X (by decide +kernel) 0 rfl ?_
      refine g_getS X (by decide +kernel) fl11_60 px0 ?_
      refine g_bipush (n := 6) (x := (6 : Int32)) X (by decide +kernel) (by decide) ?_
      refine g_iload_n (n := 1) X (by decide +kernel) 1 rfl ?_
      refine g_imul X (by decide +kernel) ?_
      refine g_iload_n (n := 3) X (by decide +kernel) 2 rfl ?_
      refine g_iadd X (by decide +kernel) ?_
      refine g_aload_n (n := 0) X (by decide +kernel) 0 rfl ?_
      refine g_getS X (by decide +kernel) fl11_60 px0 ?_
      refine g_bipush (n := 6) (x := (6 : Int32)) X (by decide +kernel) (by decide) ?_
      refine g_iload_n (n := 1) X (by decide +kernel) 1 rfl ?_
      refine g_imul X (by decide +kernel) ?_
      refine g_iload_n (n := 3) X (by decide +kernel) 2 rfl ?_
      refine g_iadd X (by decide +kernel) ?_
      refine g_iconst (n := 1) (x := (1 : Int32)) X (by decide +kernel) (by decide) ?_
      refine g_iadd X (by decide +kernel) ?_
      obtain ⟨c12, E⟩ := gd_E E
      refine g_iald X (by decide +kernel) (ly hK px0 fl11_60 rfl) c12 ?_
      obtain ⟨c13, E⟩ := gd_E E
      obtain ⟨h14, eh14, E⟩ := lt_E E
      refine g_iast X (by decide +kernel) (ly hK px0 fl11_60 rfl) c13 eh14 ?_
      obtain ⟨x3_15, ex3_15, E⟩ := lt_E E
      refine s_iinc (i := 3) (n := 1) (y := x3_15) X (by decide +kernel) 2 rfl (by decide) ex3_15 (ls_next (by decide) (Or.inr rfl) (ls_next (by decide) (Or.inr rfl) (ls_here ls_end))) ?_
      refine g_goto (off := -85) (tgt := 12) X (by decide +kernel) (by decide) ?_
      exact ih x3_15 h14  E
set_option maxHeartbeats 4000000 in
set_option maxRecDepth 20000 in
theorem c11_takesOut {sp : Sp} {K : Ly} {sz n : Nat} (hK : LyOk K) (o : Nat) (a1 : Int32) (a2 : Int32) (h : Hp) (ho : K o = some (.inl 11)) {hf : Hp} (E : f11_takesOut K n o a1 a2 h = some hf) : Con sp y11_takesOut prog_13_method_63_code 4 none 1 0 0 [.ref o, .int a1, .int a2] sz K h none sz K hf := by
  refine Con.of (by decide) (Nat.le_of_ble_eq_true rfl) (fun Γ X _ => ?_)
  show Go Γ (0, 0) 0 [(0, .ref o), (1, .int a1), (2, .int a2)] [] sz K h
  unfold f11_takesOut at E
  refine g_aload_n (n := 0) X (by decide +kernel) 0 rfl ?_
  refine g_getS X (by decide +kernel) fl11_51 ho ?_
  refine g_iload_n (n := 1) X (by decide +kernel) 1 rfl ?_
  refine g_dup2 X (by decide +kernel) rfl rfl ?_
  obtain ⟨c1, E⟩ := gd_E E
  refine g_iald X (by decide +kernel) (ly hK ho fl11_51 rfl) c1 ?_
  refine g_iconst (n := 1) (x := (1 : Int32)) X (by decide +kernel) (by decide) ?_
  refine g_isub X (by decide +kernel) ?_
  obtain ⟨c2, E⟩ := gd_E E
  obtain ⟨h3, eh3, E⟩ := lt_E E
  refine g_iast X (by decide +kernel) (ly hK ho fl11_51 rfl) c2 eh3 ?_
  refine g_iload_n (n := 2) X (by decide +kernel) 2 rfl ?_
  refine s_istore_n (n := 3) (i := 3) X (by decide +kernel) rfl (by decide) rfl (ls_next (by decide) (Or.inr rfl) (ls_next (by decide) (Or.inr rfl) (ls_next (by decide) (Or.inr rfl) (ls_ins ls_end)))) ?_
  refine g_sub [0, 1, 3] rfl ?_
  exact w11_takesOut_L12 X hK o a1 ho n a2 h3 E
-- AskedNamesModel.putsLast
def f11_putsLast_J21 (K : Ly) (n : Nat)  (x0 : Nat) (x1 : Int32) (x2 : Int32) (x3 : Int32) (x4 : Int32) (h : Hp) : Option Hp :=
    gd (inb x1 6) <|
    lt (((6 : Int32) * x1) + (h.1 (x0 + 14) x1.toNatClampNeg)) fun x6_7 =>
    gd (inb x6_7 36) <|
    lt (sI h (x0 + 15) x6_7.toNatClampNeg x2) fun h9 =>
    gd (inb x6_7 36) <|
    lt (sI h9 (x0 + 16) x6_7.toNatClampNeg x3) fun h11 =>
    gd (inb x6_7 36) <|
    lt (sI h11 (x0 + 17) x6_7.toNatClampNeg x4) fun h13 =>
    gd (inb x1 6) <|
    gd (inb x1 6) <|
    lt (sI h13 (x0 + 14) x1.toNatClampNeg ((h13.1 (x0 + 14) x1.toNatClampNeg) + (1 : Int32))) fun h16 =>
    gd (inb x1 6) <|
    bp (f11_ofNet K n x0 ((5 : Int32) + x1) h16) fun y19 =>
    if (h16.1 (x0 + 14) x1.toNatClampNeg) ≤ y19 then (
    some h16)
    else (
    bp (f11_takesOut K n x0 x1 (0 : Int32) h16) fun h22 =>
    some h22)
def f11_putsLast (K : Ly) (n : Nat) (o : Nat) (a1 : Int32) (a2 : Int32) (a3 : Int32) (a4 : Int32) (h : Hp) : Option Hp :=
    bp (f11_storedAt K n o a1 a2 h) fun y2 =>
    if y2 = (-1 : Int32) then (
    f11_putsLast_J21 K n o a1 a2 a3 a4 h)
    else (
    bp (f11_takesOut K n o a1 y2 h) fun h5 =>
    f11_putsLast_J21 K n o a1 a2 a3 a4 h5)
set_option maxHeartbeats 4000000 in
set_option maxRecDepth 20000 in
theorem w11_putsLast_J21 {Γ : CT} {sp : Sp} {K : Ly} {sz n : Nat} {hf : Hp}   (X : Ok Γ sp prog_13_method_64_code Rc11 7 none 2 none sz K hf) (hK : LyOk K) (x0 : Nat) (x1 : Int32) (x2 : Int32) (x3 : Int32) (x4 : Int32) (h : Hp)  (px0 : K x0 = some (.inl 11)) (E : f11_putsLast_J21 K n x0 x1 x2 x3 x4 h = some hf) : Go Γ (0, 0) 21 [(0, .ref x0), (1, .int x1), (2, .int x2), (3, .int x3), (4, .int x4)] [] sz K h := by
  unfold f11_putsLast_J21 at E
  refine g_bipush (n := 6) (x := (6 : Int32)) X (by decide +kernel) (by decide) ?_
  refine g_iload_n (n := 1) X (by decide +kernel) 1 rfl ?_
  refine g_imul X (by decide +kernel) ?_
  refine g_aload_n (n := 0) X (by decide +kernel) 0 rfl ?_
  refine g_getS X (by decide +kernel) fl11_51 px0 ?_
  refine g_iload_n (n := 1) X (by decide +kernel) 1 rfl ?_
  obtain ⟨c6, E⟩ := gd_E E
  refine g_iald X (by decide +kernel) (ly hK px0 fl11_51 rfl) c6 ?_
  refine g_iadd X (by decide +kernel) ?_
  obtain ⟨x6_7, ex6_7, E⟩ := lt_E E
  refine s_istore (i := 6) X (by decide +kernel) (by decide) ex6_7 (ls_next (by decide) (Or.inr rfl) (ls_next (by decide) (Or.inr rfl) (ls_next (by decide) (Or.inr rfl) (ls_next (by decide) (Or.inr rfl) (ls_next (by decide) (Or.inr rfl) (ls_ins ls_end)))))) ?_
  refine g_aload_n (n := 0) X (by decide +kernel) 0 rfl ?_
  refine g_getS X (by decide +kernel) fl11_54 px0 ?_
  refine g_iload (n := 6) X (by decide +kernel) 5 rfl ?_
  refine g_iload_n (n := 2) X (by decide +kernel) 2 rfl ?_
  obtain ⟨c8, E⟩ := gd_E E
  obtain ⟨h9, eh9, E⟩ := lt_E E
  refine g_iast X (by decide +kernel) (ly hK px0 fl11_54 rfl) c8 eh9 ?_
  refine g_aload_n (n := 0) X (by decide +kernel) 0 rfl ?_
  refine g_getS X (by decide +kernel) fl11_57 px0 ?_
  refine g_iload (n := 6) X (by decide +kernel) 5 rfl ?_
  refine g_iload_n (n := 3) X (by decide +kernel) 3 rfl ?_
  obtain ⟨c10, E⟩ := gd_E E
  obtain ⟨h11, eh11, E⟩ := lt_E E
  refine g_iast X (by decide +kernel) (ly hK px0 fl11_57 rfl) c10 eh11 ?_
  refine g_aload_n (n := 0) X (by decide +kernel) 0 rfl ?_
  refine g_getS X (by decide +kernel) fl11_60 px0 ?_
  refine g_iload (n := 6) X (by decide +kernel) 5 rfl ?_
  refine g_iload (n := 4) X (by decide +kernel) 4 rfl ?_
  obtain ⟨c12, E⟩ := gd_E E
  obtain ⟨h13, eh13, E⟩ := lt_E E
  refine g_iast X (by decide +kernel) (ly hK px0 fl11_60 rfl) c12 eh13 ?_
  refine g_aload_n (n := 0) X (by decide +kernel) 0 rfl ?_
  refine g_getS X (by decide +kernel) fl11_51 px0 ?_
  refine g_iload_n (n := 1) X (by decide +kernel) 1 rfl ?_
  refine g_dup2 X (by decide +kernel) rfl rfl ?_
  obtain ⟨c14, E⟩ := gd_E E
  refine g_iald X (by decide +kernel) (ly hK px0 fl11_51 rfl) c14 ?_
  refine g_iconst (n := 1) (x := (1 : Int32)) X (by decide +kernel) (by decide) ?_
  refine g_iadd X (by decide +kernel) ?_
  obtain ⟨c15, E⟩ := gd_E E
  obtain ⟨h16, eh16, E⟩ := lt_E E
  refine g_iast X (by decide +kernel) (ly hK px0 fl11_51 rfl) c15 eh16 ?_
  refine g_aload_n (n := 0) X (by decide +kernel) 0 rfl ?_
  refine g_getS X (by decide +kernel) fl11_51 px0 ?_
  refine g_iload_n (n := 1) X (by decide +kernel) 1 rfl ?_
  obtain ⟨c17, E⟩ := gd_E E
  refine g_iald X (by decide +kernel) (ly hK px0 fl11_51 rfl) c17 ?_
  refine g_aload_n (n := 0) X (by decide +kernel) 0 rfl ?_
  refine g_iconst (n := 5) (x := (5 : Int32)) X (by decide +kernel) (by decide) ?_
  refine g_iload_n (n := 1) X (by decide +kernel) 1 rfl ?_
  refine g_iadd X (by decide +kernel) ?_
  obtain ⟨y19, e18, E⟩ := bp_E E
  refine g_callV1 (st := [.int (h16.1 (x0 + 14) x1.toNatClampNeg)]) X [.int ((5 : Int32) + x1)] (by decide +kernel) ml11_335 px0 rfl rfl (by decide) (Nat.le_of_ble_eq_true rfl) (c11_ofNet hK x0 ((5 : Int32) + x1) h16 px0 e18) ?_
  rcases it_E E with ⟨c20, E⟩ | ⟨c20, E⟩
  · refine g_icmp_le_t (off := 9) (tgt := 91) X (by decide +kernel) (by decide) c20 ?_
    obtain rfl := Option.some.inj E
    exact g_return X (by decide +kernel)
  · refine g_icmp_le_f (off := 9) (tgt := 91) X (by decide +kernel) (by decide) c20 ?_
    refine g_aload_n (n := 0) X (by decide +kernel) 0 rfl ?_
    refine g_iload_n (n := 1) X (by decide +kernel) 1 rfl ?_
    refine g_iconst (n := 0) (x := (0 : Int32)) X (by decide +kernel) (by decide) ?_
    obtain ⟨h22, e21, E⟩ := bp_E E
    refine g_callV0 (st := []) X [.int x1, .int (0 : Int32)] (by decide +kernel) ml11_439 px0 rfl rfl (by decide) (Nat.le_of_ble_eq_true rfl) (c11_takesOut hK x0 x1 (0 : Int32) h16 px0 e21) ?_
    obtain rfl := Option.some.inj E
    exact g_return X (by decide +kernel)
set_option maxHeartbeats 4000000 in
set_option maxRecDepth 20000 in
theorem c11_putsLast {sp : Sp} {K : Ly} {sz n : Nat} (hK : LyOk K) (o : Nat) (a1 : Int32) (a2 : Int32) (a3 : Int32) (a4 : Int32) (h : Hp) (ho : K o = some (.inl 11)) {hf : Hp} (E : f11_putsLast K n o a1 a2 a3 a4 h = some hf) : Con sp y11_putsLast prog_13_method_64_code 7 none 2 0 0 [.ref o, .int a1, .int a2, .int a3, .int a4] sz K h none sz K hf := by
  refine Con.of (by decide) (Nat.le_of_ble_eq_true rfl) (fun Γ X _ => ?_)
  show Go Γ (0, 0) 0 [(0, .ref o), (1, .int a1), (2, .int a2), (3, .int a3), (4, .int a4)] [] sz K h
  unfold f11_putsLast at E
  refine g_aload_n (n := 0) X (by decide +kernel) 0 rfl ?_
  refine g_iload_n (n := 1) X (by decide +kernel) 1 rfl ?_
  refine g_iload_n (n := 2) X (by decide +kernel) 2 rfl ?_
  obtain ⟨y2, e1, E⟩ := bp_E E
  refine g_callV1 (st := []) X [.int a1, .int a2] (by decide +kernel) ml11_436 ho rfl rfl (by decide) (Nat.le_of_ble_eq_true rfl) (c11_storedAt hK o a1 a2 h ho e1) ?_
  refine s_istore (i := 5) X (by decide +kernel) (by decide) rfl (ls_next (by decide) (Or.inr rfl) (ls_next (by decide) (Or.inr rfl) (ls_next (by decide) (Or.inr rfl) (ls_next (by decide) (Or.inr rfl) (ls_next (by decide) (Or.inr rfl) (ls_ins ls_end)))))) ?_
  refine g_iload (n := 5) X (by decide +kernel) 5 rfl ?_
  refine g_iconst (n := -1) (x := (-1 : Int32)) X (by decide +kernel) (by decide) ?_
  rcases it_E E with ⟨c3, E⟩ | ⟨c3, E⟩
  · refine g_icmp_eq_t (off := 10) (tgt := 21) X (by decide +kernel) (by decide) c3 ?_
    refine g_sub [0, 1, 2, 3, 4] rfl ?_
    exact w11_putsLast_J21 X hK o a1 a2 a3 a4 h ho E
  · refine g_icmp_eq_f (off := 10) (tgt := 21) X (by decide +kernel) (by decide) c3 ?_
    refine g_aload_n (n := 0) X (by decide +kernel) 0 rfl ?_
    refine g_iload_n (n := 1) X (by decide +kernel) 1 rfl ?_
    refine g_iload (n := 5) X (by decide +kernel) 5 rfl ?_
    obtain ⟨h5, e4, E⟩ := bp_E E
    refine g_callV0 (st := []) X [.int a1, .int y2] (by decide +kernel) ml11_439 ho rfl rfl (by decide) (Nat.le_of_ble_eq_true rfl) (c11_takesOut hK o a1 y2 h ho e4) ?_
    refine g_sub [0, 1, 2, 3, 4] rfl ?_
    exact w11_putsLast_J21 X hK o a1 a2 a3 a4 h5 ho E
-- AskedNamesModel.entryOf
def f11_entryOf_L3 (K : Ly) (n : Nat) (x0 : Nat) (x1 : Int32) (x2 : Int32) (x3 : Int32) (h : Hp)  : Nat → Int32 → Option (Int32)
  | 0, _ => none
  | k + 1, x4 =>
    gd (inb x1 6) <|
    if (h.1 (x0 + 18) x1.toNatClampNeg) ≤ x4 then (
    some (-1 : Int32))
    else (
    gd (inb (((64 : Int32) * x1) + x4) 384) <|
    if (h.1 (x0 + 19) (((64 : Int32) * x1) + x4).toNatClampNeg) = x2 then (
    gd (inb (((64 : Int32) * x1) + x4) 384) <|
    if (h.1 (x0 + 20) (((64 : Int32) * x1) + x4).toNatClampNeg) = x3 then (
    some (((64 : Int32) * x1) + x4))
    else (
    lt (x4 + (1 : Int32)) fun x4_7 =>
    f11_entryOf_L3 K n x0 x1 x2 x3 h  k x4_7))
    else (
    lt (x4 + (1 : Int32)) fun x4_8 =>
    f11_entryOf_L3 K n x0 x1 x2 x3 h  k x4_8))
def f11_entryOf (K : Ly) (n : Nat) (o : Nat) (a1 : Int32) (a2 : Int32) (a3 : Int32) (h : Hp) : Option (Int32) :=
    f11_entryOf_L3 K n o a1 a2 a3 h n (0 : Int32)
set_option maxHeartbeats 4000000 in
set_option maxRecDepth 20000 in
theorem w11_entryOf_L3 {Γ : CT} {sp : Sp} {K : Ly} {sz n : Nat} {v : Int32} {h : Hp}  (X : Ok Γ sp prog_13_method_65_code Rc11 5 (some (.int)) 1 (some (.int v)) sz K h) (hK : LyOk K) (x0 : Nat) (x1 : Int32) (x2 : Int32) (x3 : Int32)  (px0 : K x0 = some (.inl 11))  : ∀ (k : Nat) (x4 : Int32), f11_entryOf_L3 K n x0 x1 x2 x3 h  k x4 = some v → Go Γ (0, 0) 3 [(0, .ref x0), (1, .int x1), (2, .int x2), (3, .int x3), (4, .int x4)] [] sz K h := by
  intro k
  induction k with
  | zero => intro x4 E; cases E
  | succ k ih =>
    intro x4 E
    unfold f11_entryOf_L3 at E
    refine g_iload (n := 4) X (by decide +kernel) 4 rfl ?_
    refine g_aload_n (n := 0) X (by decide +kernel) 0 rfl ?_
    refine g_getS X (by decide +kernel) fl11_63 px0 ?_
    refine g_iload_n (n := 1) X (by decide +kernel) 1 rfl ?_
    obtain ⟨c1, E⟩ := gd_E E
    refine g_iald X (by decide +kernel) (ly hK px0 fl11_63 rfl) c1 ?_
    rcases it_E E with ⟨c2, E⟩ | ⟨c2, E⟩
    · refine g_icmp_ge_t (off := 49) (tgt := 60) X (by decide +kernel) (by decide) c2 ?_
      refine g_iconst (n := -1) (x := (-1 : Int32)) X (by decide +kernel) (by decide) ?_
      obtain rfl := Option.some.inj E
      exact g_ireturn X (by decide +kernel)
    · refine g_icmp_ge_f (off := 49) (tgt := 60) X (by decide +kernel) (by decide) c2 ?_
      refine g_aload_n (n := 0) X (by decide +kernel) 0 rfl ?_
      refine g_getS X (by decide +kernel) fl11_66 px0 ?_
      refine g_bipush (n := 64) (x := (64 : Int32)) X (by decide +kernel) (by decide) ?_
      refine g_iload_n (n := 1) X (by decide +kernel) 1 rfl ?_
      refine g_imul X (by decide +kernel) ?_
      refine g_iload (n := 4) X (by decide +kernel) 4 rfl ?_
      refine g_iadd X (by decide +kernel) ?_
      obtain ⟨c3, E⟩ := gd_E E
      refine g_iald X (by decide +kernel) (ly hK px0 fl11_66 rfl) c3 ?_
      refine g_iload_n (n := 2) X (by decide +kernel) 2 rfl ?_
      rcases it_E E with ⟨c4, E⟩ | ⟨c4, E⟩
      · refine g_icmp_ne_f (off := 27) (tgt := 54) X (by decide +kernel) (by decide) (fun z => z c4) ?_
        refine g_aload_n (n := 0) X (by decide +kernel) 0 rfl ?_
        refine g_getS X (by decide +kernel) fl11_69 px0 ?_
        refine g_bipush (n := 64) (x := (64 : Int32)) X (by decide +kernel) (by decide) ?_
        refine g_iload_n (n := 1) X (by decide +kernel) 1 rfl ?_
        refine g_imul X (by decide +kernel) ?_
        refine g_iload (n := 4) X (by decide +kernel) 4 rfl ?_
        refine g_iadd X (by decide +kernel) ?_
        obtain ⟨c5, E⟩ := gd_E E
        refine g_iald X (by decide +kernel) (ly hK px0 fl11_69 rfl) c5 ?_
        refine g_iload_n (n := 3) X (by decide +kernel) 3 rfl ?_
        rcases it_E E with ⟨c6, E⟩ | ⟨c6, E⟩
        · refine g_icmp_ne_f (off := 11) (tgt := 54) X (by decide +kernel) (by decide) (fun z => z c6) ?_
          refine g_bipush (n := 64) (x := (64 : Int32)) X (by decide +kernel) (by decide) ?_
          refine g_iload_n (n := 1) X (by decide +kernel) 1 rfl ?_
          refine g_imul X (by decide +kernel) ?_
          refine g_iload (n := 4) X (by decide +kernel) 4 rfl ?_
          refine g_iadd X (by decide +kernel) ?_
          obtain rfl := Option.some.inj E
          exact g_ireturn X (by decide +kernel)
        · refine g_icmp_ne_t (off := 11) (tgt := 54) X (by decide +kernel) (by decide) c6 ?_
          obtain ⟨x4_7, ex4_7, E⟩ := lt_E E
          refine s_iinc (i := 4) (n := 1) (y := x4_7) X (by decide +kernel) 4 rfl (by decide) ex4_7 (ls_next (by decide) (Or.inr rfl) (ls_next (by decide) (Or.inr rfl) (ls_next (by decide) (Or.inr rfl) (ls_next (by decide) (Or.inr rfl) (ls_here ls_end))))) ?_
          refine g_goto (off := -54) (tgt := 3) X (by decide +kernel) (by decide) ?_
          exact ih x4_7  E
      · refine g_icmp_ne_t (off := 27) (tgt := 54) X (by decide +kernel) (by decide) c4 ?_
        obtain ⟨x4_8, ex4_8, E⟩ := lt_E E
        refine s_iinc (i := 4) (n := 1) (y := x4_8) X (by decide +kernel) 4 rfl (by decide) ex4_8 (ls_next (by decide) (Or.inr rfl) (ls_next (by decide) (Or.inr rfl) (ls_next (by decide) (Or.inr rfl) (ls_next (by decide) (Or.inr rfl) (ls_here ls_end))))) ?_
        refine g_goto (off := -54) (tgt := 3) X (by decide +kernel) (by decide) ?_
        exact ih x4_8  E
set_option maxHeartbeats 4000000 in
set_option maxRecDepth 20000 in
theorem c11_entryOf {sp : Sp} {K : Ly} {sz n : Nat} (hK : LyOk K) (o : Nat) (a1 : Int32) (a2 : Int32) (a3 : Int32) (h : Hp) (ho : K o = some (.inl 11)) {v : Int32} (E : f11_entryOf K n o a1 a2 a3 h = some v) : Con sp y11_entryOf prog_13_method_65_code 5 (some (.int)) 1 0 0 [.ref o, .int a1, .int a2, .int a3] sz K h (some (.int v)) sz K h := by
  refine Con.of (by decide) (Nat.le_of_ble_eq_true rfl) (fun Γ X _ => ?_)
  show Go Γ (0, 0) 0 [(0, .ref o), (1, .int a1), (2, .int a2), (3, .int a3)] [] sz K h
  unfold f11_entryOf at E
  refine g_iconst (n := 0) (x := (0 : Int32)) X (by decide +kernel) (by decide) ?_
  refine s_istore (i := 4) X (by decide +kernel) (by decide) rfl (ls_next (by decide) (Or.inr rfl) (ls_next (by decide) (Or.inr rfl) (ls_next (by decide) (Or.inr rfl) (ls_next (by decide) (Or.inr rfl) (ls_ins ls_end))))) ?_
  exact w11_entryOf_L3 X hK o a1 a2 a3 ho n (0 : Int32) E
-- AskedNamesModel.removes
def f11_removes_L12 (K : Ly) (n : Nat) (x0 : Nat) (x1 : Int32)   : Nat → Int32 → Hp → Option Hp
  | 0, _, _ => none
  | k + 1, x3, h =>
    gd (inb x1 6) <|
    if (((64 : Int32) * x1) + (h.1 (x0 + 18) x1.toNatClampNeg)) ≤ x3 then (
    some h)
    else (
    gd (inb (x3 + (1 : Int32)) 384) <|
    gd (inb x3 384) <|
    lt (sI h (x0 + 19) x3.toNatClampNeg (h.1 (x0 + 19) (x3 + (1 : Int32)).toNatClampNeg)) fun h8 =>
    gd (inb (x3 + (1 : Int32)) 384) <|
    gd (inb x3 384) <|
    lt (sI h8 (x0 + 20) x3.toNatClampNeg (h8.1 (x0 + 20) (x3 + (1 : Int32)).toNatClampNeg)) fun h11 =>
    gd (inb (x3 + (1 : Int32)) 384) <|
    gd (inb x3 384) <|
    lt (sI h11 (x0 + 21) x3.toNatClampNeg (h11.1 (x0 + 21) (x3 + (1 : Int32)).toNatClampNeg)) fun h14 =>
    gd (inb (x3 + (1 : Int32)) 384) <|
    gd (inb x3 384) <|
    lt (sL h14 (x0 + 22) x3.toNatClampNeg (h14.2.1 (x0 + 22) (x3 + (1 : Int32)).toNatClampNeg)) fun h17 =>
    gd (inb (x3 + (1 : Int32)) 384) <|
    gd (inb x3 384) <|
    lt (sL h17 (x0 + 23) x3.toNatClampNeg (h17.2.1 (x0 + 23) (x3 + (1 : Int32)).toNatClampNeg)) fun h20 =>
    gd (inb (x3 + (1 : Int32)) 384) <|
    gd (inb x3 384) <|
    lt (sI h20 (x0 + 24) x3.toNatClampNeg (h20.1 (x0 + 24) (x3 + (1 : Int32)).toNatClampNeg)) fun h23 =>
    gd (inb (x3 + (1 : Int32)) 384) <|
    gd (inb x3 384) <|
    lt (sI h23 (x0 + 25) x3.toNatClampNeg (h23.1 (x0 + 25) (x3 + (1 : Int32)).toNatClampNeg)) fun h26 =>
    gd (inb (x3 + (1 : Int32)) 384) <|
    gd (inb x3 384) <|
    lt (sI h26 (x0 + 26) x3.toNatClampNeg (h26.1 (x0 + 26) (x3 + (1 : Int32)).toNatClampNeg)) fun h29 =>
    gd (inb (x3 + (1 : Int32)) 384) <|
    gd (inb x3 384) <|
    lt (sI h29 (x0 + 27) x3.toNatClampNeg (h29.1 (x0 + 27) (x3 + (1 : Int32)).toNatClampNeg)) fun h32 =>
    gd (inb (x3 + (1 : Int32)) 384) <|
    gd (inb x3 384) <|
    lt (sI h32 (x0 + 28) x3.toNatClampNeg (h32.1 (x0 + 28) (x3 + (1 : Int32)).toNatClampNeg)) fun h35 =>
    lt (x3 + (1 : Int32)) fun x3_36 =>
    f11_removes_L12 K n x0 x1  k x3_36 h35)
def f11_removes (K : Ly) (n : Nat) (o : Nat) (a1 : Int32) (a2 : Int32) (h : Hp) : Option Hp :=
    gd (inb a1 6) <|
    gd (inb a1 6) <|
    lt (sI h (o + 18) a1.toNatClampNeg ((h.1 (o + 18) a1.toNatClampNeg) - (1 : Int32))) fun h3 =>
    f11_removes_L12 K n o a1 n a2 h3
set_option maxHeartbeats 4000000 in
set_option maxRecDepth 20000 in
theorem w11_removes_L12 {Γ : CT} {sp : Sp} {K : Ly} {sz n : Nat} {hf : Hp}  (X : Ok Γ sp prog_13_method_66_code Rc11 4 none 1 none sz K hf) (hK : LyOk K) (x0 : Nat) (x1 : Int32)  (px0 : K x0 = some (.inl 11))  : ∀ (k : Nat) (x3 : Int32) (h : Hp), f11_removes_L12 K n x0 x1  k x3 h = some hf → Go Γ (0, 0) 12 [(0, .ref x0), (1, .int x1), (3, .int x3)] [] sz K h := by
  intro k
  induction k with
  | zero => intro x3 h E; cases E
  | succ k ih =>
    intro x3 h E
    unfold f11_removes_L12 at E
    refine g_iload_n (n := 3) X (by decide +kernel) 2 rfl ?_
    refine g_bipush (n := 64) (x := (64 : Int32)) X (by decide +kernel) (by decide) ?_
    refine g_iload_n (n := 1) X (by decide +kernel) 1 rfl ?_
    refine g_imul X (by decide +kernel) ?_
    refine g_aload_n (n := 0) X (by decide +kernel) 0 rfl ?_
    refine g_getS X (by decide +kernel) fl11_63 px0 ?_
    refine g_iload_n (n := 1) X (by decide +kernel) 1 rfl ?_
    obtain ⟨c4, E⟩ := gd_E E
    refine g_iald X (by decide +kernel) (ly hK px0 fl11_63 rfl) c4 ?_
    refine g_iadd X (by decide +kernel) ?_
    rcases it_E E with ⟨c5, E⟩ | ⟨c5, E⟩
    · refine g_icmp_ge_t (off := 149) (tgt := 173) X (by decide +kernel) (by decide) c5 ?_
      obtain rfl := Option.some.inj E
      exact g_return X (by decide +kernel)
    · refine g_icmp_ge_f (off := 149) (tgt := 173) X (by decide +kernel) (by decide) c5 ?_
      refine g_aload_n (n := 0) X (by decide +kernel) 0 rfl ?_
      refine g_getS X (by decide +kernel) fl11_66 px0 ?_
      refine g_iload_n (n := 3) X (by decide +kernel) 2 rfl ?_
      refine g_aload_n (n := 0) X (by decide +kernel) 0 rfl ?_
      refine g_getS X (by decide +kernel) fl11_66 px0 ?_
      refine g_iload_n (n := 3) X (by decide +kernel) 2 rfl ?_
      refine g_iconst (n := 1) (x := (1 : Int32)) X (by decide +kernel) (by decide) ?_
      refine g_iadd X (by decide +kernel) ?_
      obtain ⟨c6, E⟩ := gd_E E
      refine g_iald X (by decide +kernel) (ly hK px0 fl11_66 rfl) c6 ?_
      obtain ⟨c7, E⟩ := gd_E E
      obtain ⟨h8, eh8, E⟩ := lt_E E
      refine g_iast X (by decide +kernel) (ly hK px0 fl11_66 rfl) c7 eh8 ?_
      refine g_aload_n (n := 0) X (by decide +kernel) 0 rfl ?_
      refine g_getS X (by decide +kernel) fl11_69 px0 ?_
      refine g_iload_n (n := 3) X (by decide +kernel) 2 rfl ?_
      refine g_aload_n (n := 0) X (by decide +kernel) 0 rfl ?_
      refine g_getS X (by decide +kernel) fl11_69 px0 ?_
      refine g_iload_n (n := 3) X (by decide +kernel) 2 rfl ?_
      refine g_iconst (n := 1) (x := (1 : Int32)) X (by decide +kernel) (by decide) ?_
      refine g_iadd X (by decide +kernel) ?_
      obtain ⟨c9, E⟩ := gd_E E
      refine g_iald X (by decide +kernel) (ly hK px0 fl11_69 rfl) c9 ?_
      obtain ⟨c10, E⟩ := gd_E E
      obtain ⟨h11, eh11, E⟩ := lt_E E
      refine g_iast X (by decide +kernel) (ly hK px0 fl11_69 rfl) c10 eh11 ?_
      refine g_aload_n (n := 0) X (by decide +kernel) 0 rfl ?_
      refine g_getS X (by decide +kernel) fl11_72 px0 ?_
      refine g_iload_n (n := 3) X (by decide +kernel) 2 rfl ?_
      refine g_aload_n (n := 0) X (by decide +kernel) 0 rfl ?_
      refine g_getS X (by decide +kernel) fl11_72 px0 ?_
      refine g_iload_n (n := 3) X (by decide +kernel) 2 rfl ?_
      refine g_iconst (n := 1) (x := (1 : Int32)) X (by decide +kernel) (by decide) ?_
      refine g_iadd X (by decide +kernel) ?_
      obtain ⟨c12, E⟩ := gd_E E
      refine g_iald X (by decide +kernel) (ly hK px0 fl11_72 rfl) c12 ?_
      obtain ⟨c13, E⟩ := gd_E E
      obtain ⟨h14, eh14, E⟩ := lt_E E
      refine g_iast X (by decide +kernel) (ly hK px0 fl11_72 rfl) c13 eh14 ?_
      refine g_aload_n (n := 0) X (by decide +kernel) 0 rfl ?_
      refine g_getS X (by decide +kernel) fl11_75 px0 ?_
      refine g_iload_n (n := 3) X (by decide +kernel) 2 rfl ?_
      refine g_aload_n (n := 0) X (by decide +kernel) 0 rfl ?_
      refine g_getS X (by decide +kernel) fl11_75 px0 ?_
      refine g_iload_n (n := 3) X (by decide +kernel) 2 rfl ?_
      refine g_iconst (n := 1) (x := (1 : Int32)) X (by decide +kernel) (by decide) ?_
      refine g_iadd X (by decide +kernel) ?_
      obtain ⟨c15, E⟩ := gd_E E
      refine g_lald X (by decide +kernel) (ly hK px0 fl11_75 rfl) c15 ?_
      obtain ⟨c16, E⟩ := gd_E E
      obtain ⟨h17, eh17, E⟩ := lt_E E
      refine g_last X (by decide +kernel) (ly hK px0 fl11_75 rfl) c16 eh17 ?_
      refine g_aload_n (n := 0) X (by decide +kernel) 0 rfl ?_
      refine g_getS X (by decide +kernel) fl11_78 px0 ?_
      refine g_iload_n (n := 3) X (by decide +kernel) 2 rfl ?_
      refine g_aload_n (n := 0) X (by decide +kernel) 0 rfl ?_
      refine g_getS X (by decide +kernel) fl11_78 px0 ?_
      refine g_iload_n (n := 3) X (by decide +kernel) 2 rfl ?_
      refine g_iconst (n := 1) (x := (1 : Int32)) X (by decide +kernel) (by decide) ?_
      refine g_iadd X (by decide +kernel) ?_
      obtain ⟨c18, E⟩ := gd_E E
      refine g_lald X (by decide +kernel) (ly hK px0 fl11_78 rfl) c18 ?_
      obtain ⟨c19, E⟩ := gd_E E
      obtain ⟨h20, eh20, E⟩ := lt_E E
      refine g_last X (by decide +kernel) (ly hK px0 fl11_78 rfl) c19 eh20 ?_
      refine g_aload_n (n := 0) X (by decide +kernel) 0 rfl ?_
      refine g_getS X (by decide +kernel) fl11_81 px0 ?_
      refine g_iload_n (n := 3) X (by decide +kernel) 2 rfl ?_
      refine g_aload_n (n := 0) X (by decide +kernel) 0 rfl ?_
      refine g_getS X (by decide +kernel) fl11_81 px0 ?_
      refine g_iload_n (n := 3) X (by decide +kernel) 2 rfl ?_
      refine g_iconst (n := 1) (x := (1 : Int32)) X (by decide +kernel) (by decide) ?_
      refine g_iadd X (by decide +kernel) ?_
      obtain ⟨c21, E⟩ := gd_E E
      refine g_iald X (by decide +kernel) (ly hK px0 fl11_81 rfl) c21 ?_
      obtain ⟨c22, E⟩ := gd_E E
      obtain ⟨h23, eh23, E⟩ := lt_E E
      refine g_iast X (by decide +kernel) (ly hK px0 fl11_81 rfl) c22 eh23 ?_
      refine g_aload_n (n := 0) X (by decide +kernel) 0 rfl ?_
      refine g_getS X (by decide +kernel) fl11_84 px0 ?_
      refine g_iload_n (n := 3) X (by decide +kernel) 2 rfl ?_
      refine g_aload_n (n := 0) X (by decide +kernel) 0 rfl ?_
      refine g_getS X (by decide +kernel) fl11_84 px0 ?_
      refine g_iload_n (n := 3) X (by decide +kernel) 2 rfl ?_
      refine g_iconst (n := 1) (x := (1 : Int32)) X (by decide +kernel) (by decide) ?_
      refine g_iadd X (by decide +kernel) ?_
      obtain ⟨c24, E⟩ := gd_E E
      refine g_iald X (by decide +kernel) (ly hK px0 fl11_84 rfl) c24 ?_
      obtain ⟨c25, E⟩ := gd_E E
      obtain ⟨h26, eh26, E⟩ := lt_E E
      refine g_iast X (by decide +kernel) (ly hK px0 fl11_84 rfl) c25 eh26 ?_
      refine g_aload_n (n := 0) X (by decide +kernel) 0 rfl ?_
      refine g_getS X (by decide +kernel) fl11_87 px0 ?_
      refine g_iload_n (n := 3) X (by decide +kernel) 2 rfl ?_
      refine g_aload_n (n := 0) X (by decide +kernel) 0 rfl ?_
      refine g_getS X (by decide +kernel) fl11_87 px0 ?_
      refine g_iload_n (n := 3) X (by decide +kernel) 2 rfl ?_
      refine g_iconst (n := 1) (x := (1 : Int32)) X (by decide +kernel) (by decide) ?_
      refine g_iadd X (by decide +kernel) ?_
      obtain ⟨c27, E⟩ := gd_E E
      refine g_iald X (by decide +kernel) (ly hK px0 fl11_87 rfl) c27 ?_
      obtain ⟨c28, E⟩ := gd_E E
      obtain ⟨h29, eh29, E⟩ := lt_E E
      refine g_iast X (by decide +kernel) (ly hK px0 fl11_87 rfl) c28 eh29 ?_
      refine g_aload_n (n := 0) X (by decide +kernel) 0 rfl ?_
      refine g_getS X (by decide +kernel) fl11_90 px0 ?_
      refine g_iload_n (n := 3) X (by decide +kernel) 2 rfl ?_
      refine g_aload_n (n := 0) X (by decide +kernel) 0 rfl ?_
      refine g_getS X (by decide +kernel) fl11_90 px0 ?_
      refine g_iload_n (n := 3) X (by decide +kernel) 2 rfl ?_
      refine g_iconst (n := 1) (x := (1 : Int32)) X (by decide +kernel) (by decide) ?_
      refine g_iadd X (by decide +kernel) ?_
      obtain ⟨c30, E⟩ := gd_E E
      refine g_iald X (by decide +kernel) (ly hK px0 fl11_90 rfl) c30 ?_
      obtain ⟨c31, E⟩ := gd_E E
      obtain ⟨h32, eh32, E⟩ := lt_E E
      refine g_iast X (by decide +kernel) (ly hK px0 fl11_90 rfl) c31 eh32 ?_
      refine g_aload_n (n := 0) X (by decide +kernel) 0 rfl ?_
      refine g_getS X (by decide +kernel) fl11_93 px0 ?_
      refine g_iload_n (n := 3) X (by decide +kernel) 2 rfl ?_
      refine g_aload_n (n := 0) X (by decide +kernel) 0 rfl ?_
      refine g_getS X (by decide +kernel) fl11_93 px0 ?_
      refine g_iload_n (n := 3) X (by decide +kernel) 2 rfl ?_
      refine g_iconst (n := 1) (x := (1 : Int32)) X (by decide +kernel) (by decide) ?_
      refine g_iadd X (by decide +kernel) ?_
      obtain ⟨c33, E⟩ := gd_E E
      refine g_iald X (by decide +kernel) (ly hK px0 fl11_93 rfl) c33 ?_
      obtain ⟨c34, E⟩ := gd_E E
      obtain ⟨h35, eh35, E⟩ := lt_E E
      refine g_iast X (by decide +kernel) (ly hK px0 fl11_93 rfl) c34 eh35 ?_
      obtain ⟨x3_36, ex3_36, E⟩ := lt_E E
      refine s_iinc (i := 3) (n := 1) (y := x3_36) X (by decide +kernel) 2 rfl (by decide) ex3_36 (ls_next (by decide) (Or.inr rfl) (ls_next (by decide) (Or.inr rfl) (ls_here ls_end))) ?_
      refine g_goto (off := -158) (tgt := 12) X (by decide +kernel) (by decide) ?_
      exact ih x3_36 h35  E
set_option maxHeartbeats 4000000 in
set_option maxRecDepth 20000 in
theorem c11_removes {sp : Sp} {K : Ly} {sz n : Nat} (hK : LyOk K) (o : Nat) (a1 : Int32) (a2 : Int32) (h : Hp) (ho : K o = some (.inl 11)) {hf : Hp} (E : f11_removes K n o a1 a2 h = some hf) : Con sp y11_removes prog_13_method_66_code 4 none 1 0 0 [.ref o, .int a1, .int a2] sz K h none sz K hf := by
  refine Con.of (by decide) (Nat.le_of_ble_eq_true rfl) (fun Γ X _ => ?_)
  show Go Γ (0, 0) 0 [(0, .ref o), (1, .int a1), (2, .int a2)] [] sz K h
  unfold f11_removes at E
  refine g_aload_n (n := 0) X (by decide +kernel) 0 rfl ?_
  refine g_getS X (by decide +kernel) fl11_63 ho ?_
  refine g_iload_n (n := 1) X (by decide +kernel) 1 rfl ?_
  refine g_dup2 X (by decide +kernel) rfl rfl ?_
  obtain ⟨c1, E⟩ := gd_E E
  refine g_iald X (by decide +kernel) (ly hK ho fl11_63 rfl) c1 ?_
  refine g_iconst (n := 1) (x := (1 : Int32)) X (by decide +kernel) (by decide) ?_
  refine g_isub X (by decide +kernel) ?_
  obtain ⟨c2, E⟩ := gd_E E
  obtain ⟨h3, eh3, E⟩ := lt_E E
  refine g_iast X (by decide +kernel) (ly hK ho fl11_63 rfl) c2 eh3 ?_
  refine g_iload_n (n := 2) X (by decide +kernel) 2 rfl ?_
  refine s_istore_n (n := 3) (i := 3) X (by decide +kernel) rfl (by decide) rfl (ls_next (by decide) (Or.inr rfl) (ls_next (by decide) (Or.inr rfl) (ls_next (by decide) (Or.inr rfl) (ls_ins ls_end)))) ?_
  refine g_sub [0, 1, 3] rfl ?_
  exact w11_removes_L12 X hK o a1 ho n a2 h3 E
-- AskedNamesModel.hasL
def f11_hasL (a0 : Int64) (a2 : Int32) : Int32 :=
    (if (lg_cmp ((a0 >>> (a2.toInt64 &&& 63)) &&& (1 : Int64)) (1 : Int64)) = 0 then (1 : Int32) else (0 : Int32))
set_option maxHeartbeats 4000000 in
set_option maxRecDepth 20000 in
theorem c11_hasL {sp : Sp} {K : Ly} {sz : Nat} (hK : LyOk K) (a0 : Int64) (a2 : Int32) (h : Hp)  : Con sp y11_hasL prog_13_method_67_code 3 (some (.boolean)) 1 0 0 [.long a0, .int a2] sz K h (some (.int (f11_hasL a0 a2))) sz K h := by
  obtain ⟨v, E⟩ : ∃ v, f11_hasL a0 a2 = v := ⟨_, rfl⟩
  rw [E]
  refine Con.of (by decide) (Nat.le_of_ble_eq_true rfl) (fun Γ X _ => ?_)
  show Go Γ (0, 0) 0 [(0, .long a0), (2, .int a2)] [] sz K h
  unfold f11_hasL at E
  refine g_lload_n (n := 0) X (by decide +kernel) 0 rfl ?_
  refine g_iload_n (n := 2) X (by decide +kernel) 1 rfl ?_
  refine g_lshr X (by decide +kernel) ?_
  refine g_lconst (n := 1) (x := (1 : Int64)) X (by decide +kernel) (by decide) ?_
  refine g_land X (by decide +kernel) ?_
  refine g_lconst (n := 1) (x := (1 : Int64)) X (by decide +kernel) (by decide) ?_
  refine g_lcmp X (by decide +kernel) ?_
  have hJ : Go Γ (0, 0) 15 [] [.int (if (lg_cmp ((a0 >>> (a2.toInt64 &&& 63)) &&& (1 : Int64)) (1 : Int64)) = 0 then (1 : Int32) else (0 : Int32))] sz K h := by
    subst E
    exact g_zreturn X (by decide +kernel) (by (repeat' split) <;> rfl)
  clear E
  by_cases c1 : (lg_cmp ((a0 >>> (a2.toInt64 &&& 63)) &&& (1 : Int64)) (1 : Int64)) = 0
  · rw [if_pos c1] at hJ
    refine g_if_ne_f (off := 7) (tgt := 14) X (by decide +kernel) (by decide) (fun z => z c1) ?_
    refine g_iconst (n := 1) (x := (1 : Int32)) X (by decide +kernel) (by decide) ?_
    refine g_goto (off := 4) (tgt := 15) X (by decide +kernel) (by decide) ?_
    refine g_sub [] rfl ?_
    exact hJ
  · rw [if_neg c1] at hJ
    refine g_if_ne_t (off := 7) (tgt := 14) X (by decide +kernel) (by decide) c1 ?_
    refine g_iconst (n := 0) (x := (0 : Int32)) X (by decide +kernel) (by decide) ?_
    refine g_sub [] rfl ?_
    exact hJ
-- AskedNamesModel.nextWay
def f11_nextWay_J163 (K : Ly) (n : Nat) (r19 : Int32 → Int32 → Int32 → Option (Int32)) (x0 : Nat) (x1 : Int32) (x2 : Int32) (x3 : Int32) (x4 : Int32) (x5 : Int32) (x7 : Int32) (s0 : Int32) (h : Hp) : Option (Int32) :=
    lt (x7 + (1 : Int32)) fun x7_28 =>
    r19 x5 s0 x7_28
def f11_nextWay_J149 (K : Ly) (n : Nat) (r19 : Int32 → Int32 → Int32 → Option (Int32)) (x0 : Nat) (x1 : Int32) (x2 : Int32) (x3 : Int32) (x4 : Int32) (x6 : Int32) (x7 : Int32) (x9 : Int32) (x10 : Int32) (s0 : Int32) (h : Hp) : Option (Int32) :=
    f11_nextWay_J163 K n (r19) x0 x1 x2 x3 x4 s0 x7 (if x10 = 0 then x6 else x9) h
def f11_nextWay_J135 (K : Ly) (n : Nat) (r19 : Int32 → Int32 → Int32 → Option (Int32)) (x0 : Nat) (x1 : Int32) (x2 : Int32) (x3 : Int32) (x4 : Int32) (x5 : Int32) (x6 : Int32) (x7 : Int32) (x8 : Int32) (x9 : Int32) (s0 : Int32) (h : Hp) : Option (Int32) :=
    f11_nextWay_J149 K n (r19) x0 x1 x2 x3 x4 x6 x7 x9 s0 (if s0 = 0 then x5 else x8) h
def f11_nextWay_J107 (K : Ly) (n : Nat) (r19 : Int32 → Int32 → Int32 → Option (Int32)) (x0 : Nat) (x1 : Int32) (x2 : Int32) (x3 : Int32) (x4 : Int32) (x5 : Int32) (x6 : Int32) (x7 : Int32) (x8 : Int32) (s0 : Int32) (h : Hp) : Option (Int32) :=
    f11_nextWay_J135 K n (r19) x0 x1 x2 x3 x4 x5 x6 x7 x8 s0 (if s0 < x6 then (1 : Int32) else (if s0 = x6 then (if x5 ≤ x8 then (0 : Int32) else (1 : Int32)) else (0 : Int32))) h
def f11_nextWay_L19 (K : Ly) (n : Nat) (x0 : Nat) (x1 : Int32) (x2 : Int32) (x3 : Int32) (x4 : Int32) (h : Hp)  : Nat → Int32 → Int32 → Int32 → Option (Int32)
  | 0, _, _, _ => none
  | k + 1, x5, x6, x7 =>
    bp (f11_routes K n x0 h) fun y4 =>
    if y4 ≤ x7 then (
    some x5)
    else (
    bp (f11_routeAt K n x0 x7 (2 : Int32) h) fun y7 =>
    bp (f11_isRoute K n x0 x7 x1 x2 x4 h) fun y9 =>
    if y9 = 0 then (
    lt (x7 + (1 : Int32)) fun x7_11 =>
    f11_nextWay_L19 K n x0 x1 x2 x3 x4 h  k x5 x6 x7_11)
    else (
    bp (f11_isUp K n x0 x1 y7 h) fun y13 =>
    if y13 = 0 then (
    lt (x7 + (1 : Int32)) fun x7_15 =>
    f11_nextWay_L19 K n x0 x1 x2 x3 x4 h  k x5 x6 x7_15)
    else (
    if (f11_has x3 y7) = 0 then (
    gd (inb (((6 : Int32) * x1) + y7) 36) <|
    if (h.1 (x0 + 13) (((6 : Int32) * x1) + y7).toNatClampNeg) = (-1 : Int32) then (
    bp (f11_routeAt K n x0 x7 (3 : Int32) h) fun y20 =>
    f11_nextWay_J107 K n (f11_nextWay_L19 K n x0 x1 x2 x3 x4 h  k) x0 x1 x2 x3 x4 x5 x6 x7 y7 y20 h)
    else (
    gd (inb (((6 : Int32) * x1) + y7) 36) <|
    f11_nextWay_J107 K n (f11_nextWay_L19 K n x0 x1 x2 x3 x4 h  k) x0 x1 x2 x3 x4 x5 x6 x7 y7 (h.1 (x0 + 13) (((6 : Int32) * x1) + y7).toNatClampNeg) h))
    else (
    lt (x7 + (1 : Int32)) fun x7_22 =>
    f11_nextWay_L19 K n x0 x1 x2 x3 x4 h  k x5 x6 x7_22))))
def f11_nextWay (K : Ly) (n : Nat) (o : Nat) (a1 : Int32) (a2 : Int32) (a3 : Int32) (h : Hp) : Option (Int32) :=
    bp (f11_longestAt K n o a1 a2 h) fun y2 =>
    f11_nextWay_L19 K n o a1 a2 a3 y2 h n (-1 : Int32) (1000000 : Int32) (0 : Int32)
set_option maxHeartbeats 4000000 in
set_option maxRecDepth 20000 in
theorem w11_nextWay_J163 {Γ : CT} {sp : Sp} {K : Ly} {sz n : Nat} {v : Int32} {h : Hp}  {r19 : Int32 → Int32 → Int32 → Option (Int32)}  (X : Ok Γ sp prog_13_method_68_code Rc11 11 (some (.int)) 4 (some (.int v)) sz K h) (hK : LyOk K) (x0 : Nat) (x1 : Int32) (x2 : Int32) (x3 : Int32) (x4 : Int32) (x5 : Int32) (x7 : Int32) (s0 : Int32)  (hr19 : ∀ (x5 : Int32) (x6 : Int32) (x7 : Int32), r19 x5 x6 x7 = some v → Go Γ (0, 0) 19 [(0, .ref x0), (1, .int x1), (2, .int x2), (3, .int x3), (4, .int x4), (5, .int x5), (6, .int x6), (7, .int x7)] [] sz K h) (px0 : K x0 = some (.inl 11)) (E : f11_nextWay_J163 K n r19 x0 x1 x2 x3 x4 x5 x7 s0 h = some v) : Go Γ (0, 0) 163 [(0, .ref x0), (1, .int x1), (2, .int x2), (3, .int x3), (4, .int x4), (5, .int x5), (7, .int x7)] [.int s0] sz K h := by
  unfold f11_nextWay_J163 at E
  refine s_istore (i := 6) X (by decide +kernel) (by decide) rfl (ls_next (by decide) (Or.inr rfl) (ls_next (by decide) (Or.inr rfl) (ls_next (by decide) (Or.inr rfl) (ls_next (by decide) (Or.inr rfl) (ls_next (by decide) (Or.inr rfl) (ls_next (by decide) (Or.inr rfl) (ls_ins (ls_next (by decide) (Or.inr rfl) ls_end)))))))) ?_
  obtain ⟨x7_28, ex7_28, E⟩ := lt_E E
  refine s_iinc (i := 7) (n := 1) (y := x7_28) X (by decide +kernel) 7 rfl (by decide) ex7_28 (ls_next (by decide) (Or.inr rfl) (ls_next (by decide) (Or.inr rfl) (ls_next (by decide) (Or.inr rfl) (ls_next (by decide) (Or.inr rfl) (ls_next (by decide) (Or.inr rfl) (ls_next (by decide) (Or.inr rfl) (ls_next (by decide) (Or.inr rfl) (ls_here ls_end)))))))) ?_
  refine g_goto (off := -149) (tgt := 19) X (by decide +kernel) (by decide) ?_
  exact hr19 x5 s0 x7_28  E
set_option maxHeartbeats 4000000 in
set_option maxRecDepth 20000 in
theorem w11_nextWay_J149 {Γ : CT} {sp : Sp} {K : Ly} {sz n : Nat} {v : Int32} {h : Hp}  {r19 : Int32 → Int32 → Int32 → Option (Int32)}  (X : Ok Γ sp prog_13_method_68_code Rc11 11 (some (.int)) 4 (some (.int v)) sz K h) (hK : LyOk K) (x0 : Nat) (x1 : Int32) (x2 : Int32) (x3 : Int32) (x4 : Int32) (x6 : Int32) (x7 : Int32) (x9 : Int32) (x10 : Int32) (s0 : Int32)  (hr19 : ∀ (x5 : Int32) (x6 : Int32) (x7 : Int32), r19 x5 x6 x7 = some v → Go Γ (0, 0) 19 [(0, .ref x0), (1, .int x1), (2, .int x2), (3, .int x3), (4, .int x4), (5, .int x5), (6, .int x6), (7, .int x7)] [] sz K h) (px0 : K x0 = some (.inl 11)) (E : f11_nextWay_J149 K n r19 x0 x1 x2 x3 x4 x6 x7 x9 x10 s0 h = some v) : Go Γ (0, 0) 149 [(0, .ref x0), (1, .int x1), (2, .int x2), (3, .int x3), (4, .int x4), (6, .int x6), (7, .int x7), (9, .int x9), (10, .int x10)] [.int s0] sz K h := by
  unfold f11_nextWay_J149 at E
  refine s_istore (i := 5) X (by decide +kernel) (by decide) rfl (ls_next (by decide) (Or.inr rfl) (ls_next (by decide) (Or.inr rfl) (ls_next (by decide) (Or.inr rfl) (ls_next (by decide) (Or.inr rfl) (ls_next (by decide) (Or.inr rfl) (ls_ins (ls_next (by decide) (Or.inr rfl) (ls_next (by decide) (Or.inr rfl) (ls_next (by decide) (Or.inr rfl) (ls_next (by decide) (Or.inr rfl) ls_end)))))))))) ?_
  refine g_iload (n := 10) X (by decide +kernel) 9 rfl ?_
  have hJ : Go Γ (0, 0) 163 [(0, .ref x0), (1, .int x1), (2, .int x2), (3, .int x3), (4, .int x4), (5, .int s0), (7, .int x7)] [.int (if x10 = 0 then x6 else x9)] sz K h := by
    exact w11_nextWay_J163 X hK x0 x1 x2 x3 x4 s0 x7 (if x10 = 0 then x6 else x9) hr19 px0 E
  clear E
  by_cases c27 : x10 = 0
  · rw [if_pos c27] at hJ
    refine g_if_eq_t (off := 8) (tgt := 161) X (by decide +kernel) (by decide) c27 ?_
    refine g_iload (n := 6) X (by decide +kernel) 6 rfl ?_
    refine g_sub [0, 1, 2, 3, 4, 5, 7] rfl ?_
    exact hJ
  · rw [if_neg c27] at hJ
    refine g_if_eq_f (off := 8) (tgt := 161) X (by decide +kernel) (by decide) c27 ?_
    refine g_iload (n := 9) X (by decide +kernel) 8 rfl ?_
    refine g_goto (off := 5) (tgt := 163) X (by decide +kernel) (by decide) ?_
    refine g_sub [0, 1, 2, 3, 4, 5, 7] rfl ?_
    exact hJ
set_option maxHeartbeats 4000000 in
set_option maxRecDepth 20000 in
theorem w11_nextWay_J135 {Γ : CT} {sp : Sp} {K : Ly} {sz n : Nat} {v : Int32} {h : Hp}  {r19 : Int32 → Int32 → Int32 → Option (Int32)}  (X : Ok Γ sp prog_13_method_68_code Rc11 11 (some (.int)) 4 (some (.int v)) sz K h) (hK : LyOk K) (x0 : Nat) (x1 : Int32) (x2 : Int32) (x3 : Int32) (x4 : Int32) (x5 : Int32) (x6 : Int32) (x7 : Int32) (x8 : Int32) (x9 : Int32) (s0 : Int32)  (hr19 : ∀ (x5 : Int32) (x6 : Int32) (x7 : Int32), r19 x5 x6 x7 = some v → Go Γ (0, 0) 19 [(0, .ref x0), (1, .int x1), (2, .int x2), (3, .int x3), (4, .int x4), (5, .int x5), (6, .int x6), (7, .int x7)] [] sz K h) (px0 : K x0 = some (.inl 11)) (E : f11_nextWay_J135 K n r19 x0 x1 x2 x3 x4 x5 x6 x7 x8 x9 s0 h = some v) : Go Γ (0, 0) 135 [(0, .ref x0), (1, .int x1), (2, .int x2), (3, .int x3), (4, .int x4), (5, .int x5), (6, .int x6), (7, .int x7), (8, .int x8), (9, .int x9)] [.int s0] sz K h := by
  unfold f11_nextWay_J135 at E
  refine s_istore (i := 10) X (by decide +kernel) (by decide) rfl (ls_next (by decide) (Or.inr rfl) (ls_next (by decide) (Or.inr rfl) (ls_next (by decide) (Or.inr rfl) (ls_next (by decide) (Or.inr rfl) (ls_next (by decide) (Or.inr rfl) (ls_next (by decide) (Or.inr rfl) (ls_next (by decide) (Or.inr rfl) (ls_next (by decide) (Or.inr rfl) (ls_next (by decide) (Or.inr rfl) (ls_next (by decide) (Or.inr rfl) (ls_ins ls_end))))))))))) ?_
  refine g_iload (n := 10) X (by decide +kernel) 10 rfl ?_
  have hJ : Go Γ (0, 0) 149 [(0, .ref x0), (1, .int x1), (2, .int x2), (3, .int x3), (4, .int x4), (6, .int x6), (7, .int x7), (9, .int x9), (10, .int s0)] [.int (if s0 = 0 then x5 else x8)] sz K h := by
    exact w11_nextWay_J149 X hK x0 x1 x2 x3 x4 x6 x7 x9 s0 (if s0 = 0 then x5 else x8) hr19 px0 E
  clear E
  by_cases c26 : s0 = 0
  · rw [if_pos c26] at hJ
    refine g_if_eq_t (off := 8) (tgt := 147) X (by decide +kernel) (by decide) c26 ?_
    refine g_iload (n := 5) X (by decide +kernel) 5 rfl ?_
    refine g_sub [0, 1, 2, 3, 4, 6, 7, 9, 10] rfl ?_
    exact hJ
  · rw [if_neg c26] at hJ
    refine g_if_eq_f (off := 8) (tgt := 147) X (by decide +kernel) (by decide) c26 ?_
    refine g_iload (n := 8) X (by decide +kernel) 8 rfl ?_
    refine g_goto (off := 5) (tgt := 149) X (by decide +kernel) (by decide) ?_
    refine g_sub [0, 1, 2, 3, 4, 6, 7, 9, 10] rfl ?_
    exact hJ
set_option maxHeartbeats 4000000 in
set_option maxRecDepth 20000 in
theorem w11_nextWay_J107 {Γ : CT} {sp : Sp} {K : Ly} {sz n : Nat} {v : Int32} {h : Hp}  {r19 : Int32 → Int32 → Int32 → Option (Int32)}  (X : Ok Γ sp prog_13_method_68_code Rc11 11 (some (.int)) 4 (some (.int v)) sz K h) (hK : LyOk K) (x0 : Nat) (x1 : Int32) (x2 : Int32) (x3 : Int32) (x4 : Int32) (x5 : Int32) (x6 : Int32) (x7 : Int32) (x8 : Int32) (s0 : Int32)  (hr19 : ∀ (x5 : Int32) (x6 : Int32) (x7 : Int32), r19 x5 x6 x7 = some v → Go Γ (0, 0) 19 [(0, .ref x0), (1, .int x1), (2, .int x2), (3, .int x3), (4, .int x4), (5, .int x5), (6, .int x6), (7, .int x7)] [] sz K h) (px0 : K x0 = some (.inl 11)) (E : f11_nextWay_J107 K n r19 x0 x1 x2 x3 x4 x5 x6 x7 x8 s0 h = some v) : Go Γ (0, 0) 107 [(0, .ref x0), (1, .int x1), (2, .int x2), (3, .int x3), (4, .int x4), (5, .int x5), (6, .int x6), (7, .int x7), (8, .int x8)] [.int s0] sz K h := by
  unfold f11_nextWay_J107 at E
  refine s_istore (i := 9) X (by decide +kernel) (by decide) rfl (ls_next (by decide) (Or.inr rfl) (ls_next (by decide) (Or.inr rfl) (ls_next (by decide) (Or.inr rfl) (ls_next (by decide) (Or.inr rfl) (ls_next (by decide) (Or.inr rfl) (ls_next (by decide) (Or.inr rfl) (ls_next (by decide) (Or.inr rfl) (ls_next (by decide) (Or.inr rfl) (ls_next (by decide) (Or.inr rfl) (ls_ins ls_end)))))))))) ?_
  refine g_iload (n := 9) X (by decide +kernel) 9 rfl ?_
  refine g_iload (n := 6) X (by decide +kernel) 6 rfl ?_
  have hJ : Go Γ (0, 0) 135 [(0, .ref x0), (1, .int x1), (2, .int x2), (3, .int x3), (4, .int x4), (5, .int x5), (6, .int x6), (7, .int x7), (8, .int x8), (9, .int s0)] [.int (if s0 < x6 then (1 : Int32) else (if s0 = x6 then (if x5 ≤ x8 then (0 : Int32) else (1 : Int32)) else (0 : Int32)))] sz K h := by
    exact w11_nextWay_J135 X hK x0 x1 x2 x3 x4 x5 x6 x7 x8 s0 (if s0 < x6 then (1 : Int32) else (if s0 = x6 then (if x5 ≤ x8 then (0 : Int32) else (1 : Int32)) else (0 : Int32))) hr19 px0 E
  clear E
  by_cases c23 : s0 < x6
  · rw [if_pos c23] at hJ
    refine g_icmp_lt_t (off := 17) (tgt := 130) X (by decide +kernel) (by decide) c23 ?_
    refine g_iconst (n := 1) (x := (1 : Int32)) X (by decide +kernel) (by decide) ?_
    refine g_goto (off := 4) (tgt := 135) X (by decide +kernel) (by decide) ?_
    exact hJ
  · rw [if_neg c23] at hJ
    refine g_icmp_lt_f (off := 17) (tgt := 130) X (by decide +kernel) (by decide) c23 ?_
    refine g_iload (n := 9) X (by decide +kernel) 9 rfl ?_
    refine g_iload (n := 6) X (by decide +kernel) 6 rfl ?_
    by_cases c24 : s0 = x6
    · rw [if_pos c24] at hJ
      refine g_icmp_ne_f (off := 14) (tgt := 134) X (by decide +kernel) (by decide) (fun z => z c24) ?_
      refine g_iload (n := 8) X (by decide +kernel) 8 rfl ?_
      refine g_iload (n := 5) X (by decide +kernel) 5 rfl ?_
      by_cases c25 : x5 ≤ x8
      · rw [if_pos c25] at hJ
        refine g_icmp_ge_t (off := 7) (tgt := 134) X (by decide +kernel) (by decide) c25 ?_
        refine g_iconst (n := 0) (x := (0 : Int32)) X (by decide +kernel) (by decide) ?_
        exact hJ
      · rw [if_neg c25] at hJ
        refine g_icmp_ge_f (off := 7) (tgt := 134) X (by decide +kernel) (by decide) c25 ?_
        refine g_iconst (n := 1) (x := (1 : Int32)) X (by decide +kernel) (by decide) ?_
        refine g_goto (off := 4) (tgt := 135) X (by decide +kernel) (by decide) ?_
        exact hJ
    · rw [if_neg c24] at hJ
      refine g_icmp_ne_t (off := 14) (tgt := 134) X (by decide +kernel) (by decide) c24 ?_
      refine g_iconst (n := 0) (x := (0 : Int32)) X (by decide +kernel) (by decide) ?_
      exact hJ
set_option maxHeartbeats 4000000 in
set_option maxRecDepth 20000 in
theorem w11_nextWay_L19 {Γ : CT} {sp : Sp} {K : Ly} {sz n : Nat} {v : Int32} {h : Hp}  (X : Ok Γ sp prog_13_method_68_code Rc11 11 (some (.int)) 4 (some (.int v)) sz K h) (hK : LyOk K) (x0 : Nat) (x1 : Int32) (x2 : Int32) (x3 : Int32) (x4 : Int32)  (px0 : K x0 = some (.inl 11))  : ∀ (k : Nat) (x5 : Int32) (x6 : Int32) (x7 : Int32), f11_nextWay_L19 K n x0 x1 x2 x3 x4 h  k x5 x6 x7 = some v → Go Γ (0, 0) 19 [(0, .ref x0), (1, .int x1), (2, .int x2), (3, .int x3), (4, .int x4), (5, .int x5), (6, .int x6), (7, .int x7)] [] sz K h := by
  intro k
  induction k with
  | zero => intro x5 x6 x7 E; cases E
  | succ k ih =>
    intro x5 x6 x7 E
    unfold f11_nextWay_L19 at E
    refine g_iload (n := 7) X (by decide +kernel) 7 rfl ?_
    refine g_aload_n (n := 0) X (by decide +kernel) 0 rfl ?_
    obtain ⟨y4, e3, E⟩ := bp_E E
    refine g_callV1 (st := [.int x7]) X [] (by decide +kernel) ml11_357 px0 rfl rfl (by decide) (Nat.le_of_ble_eq_true rfl) (c11_routes hK x0 h px0 e3) ?_
    rcases it_E E with ⟨c5, E⟩ | ⟨c5, E⟩
    · refine g_icmp_ge_t (off := 146) (tgt := 171) X (by decide +kernel) (by decide) c5 ?_
      refine g_iload (n := 5) X (by decide +kernel) 5 rfl ?_
      obtain rfl := Option.some.inj E
      exact g_ireturn X (by decide +kernel)
    · refine g_icmp_ge_f (off := 146) (tgt := 171) X (by decide +kernel) (by decide) c5 ?_
      refine g_aload_n (n := 0) X (by decide +kernel) 0 rfl ?_
      refine g_iload (n := 7) X (by decide +kernel) 7 rfl ?_
      refine g_iconst (n := 2) (x := (2 : Int32)) X (by decide +kernel) (by decide) ?_
      obtain ⟨y7, e6, E⟩ := bp_E E
      refine g_callV1 (st := []) X [.int x7, .int (2 : Int32)] (by decide +kernel) ml11_360 px0 rfl rfl (by decide) (Nat.le_of_ble_eq_true rfl) (c11_routeAt hK x0 x7 (2 : Int32) h px0 e6) ?_
      refine s_istore (i := 8) X (by decide +kernel) (by decide) rfl (ls_next (by decide) (Or.inr rfl) (ls_next (by decide) (Or.inr rfl) (ls_next (by decide) (Or.inr rfl) (ls_next (by decide) (Or.inr rfl) (ls_next (by decide) (Or.inr rfl) (ls_next (by decide) (Or.inr rfl) (ls_next (by decide) (Or.inr rfl) (ls_next (by decide) (Or.inr rfl) (ls_ins ls_end))))))))) ?_
      refine g_aload_n (n := 0) X (by decide +kernel) 0 rfl ?_
      refine g_iload (n := 7) X (by decide +kernel) 7 rfl ?_
      refine g_iload_n (n := 1) X (by decide +kernel) 1 rfl ?_
      refine g_iload_n (n := 2) X (by decide +kernel) 2 rfl ?_
      refine g_iload (n := 4) X (by decide +kernel) 4 rfl ?_
      obtain ⟨y9, e8, E⟩ := bp_E E
      refine g_callV1 (st := []) X [.int x7, .int x1, .int x2, .int x4] (by decide +kernel) ml11_446 px0 rfl rfl (by decide) (Nat.le_of_ble_eq_true rfl) (c11_isRoute hK x0 x7 x1 x2 x4 h px0 e8) ?_
      rcases it_E E with ⟨c10, E⟩ | ⟨c10, E⟩
      · refine g_if_eq_t (off := 118) (tgt := 165) X (by decide +kernel) (by decide) c10 ?_
        obtain ⟨x7_11, ex7_11, E⟩ := lt_E E
        refine s_iinc (i := 7) (n := 1) (y := x7_11) X (by decide +kernel) 7 rfl (by decide) ex7_11 (ls_next (by decide) (Or.inr rfl) (ls_next (by decide) (Or.inr rfl) (ls_next (by decide) (Or.inr rfl) (ls_next (by decide) (Or.inr rfl) (ls_next (by decide) (Or.inr rfl) (ls_next (by decide) (Or.inr rfl) (ls_next (by decide) (Or.inr rfl) (ls_here (ls_next (by decide) (Or.inr rfl) ls_end))))))))) ?_
        refine g_goto (off := -149) (tgt := 19) X (by decide +kernel) (by decide) ?_
        refine g_sub [0, 1, 2, 3, 4, 5, 6, 7] rfl ?_
        exact ih x5 x6 x7_11  E
      · refine g_if_eq_f (off := 118) (tgt := 165) X (by decide +kernel) (by decide) c10 ?_
        refine g_aload_n (n := 0) X (by decide +kernel) 0 rfl ?_
        refine g_iload_n (n := 1) X (by decide +kernel) 1 rfl ?_
        refine g_iload (n := 8) X (by decide +kernel) 8 rfl ?_
        obtain ⟨y13, e12, E⟩ := bp_E E
        refine g_callV1 (st := []) X [.int x1, .int y7] (by decide +kernel) ml11_408 px0 rfl rfl (by decide) (Nat.le_of_ble_eq_true rfl) (c11_isUp hK x0 x1 y7 h px0 e12) ?_
        rcases it_E E with ⟨c14, E⟩ | ⟨c14, E⟩
        · refine g_if_eq_t (off := 108) (tgt := 165) X (by decide +kernel) (by decide) c14 ?_
          obtain ⟨x7_15, ex7_15, E⟩ := lt_E E
          refine s_iinc (i := 7) (n := 1) (y := x7_15) X (by decide +kernel) 7 rfl (by decide) ex7_15 (ls_next (by decide) (Or.inr rfl) (ls_next (by decide) (Or.inr rfl) (ls_next (by decide) (Or.inr rfl) (ls_next (by decide) (Or.inr rfl) (ls_next (by decide) (Or.inr rfl) (ls_next (by decide) (Or.inr rfl) (ls_next (by decide) (Or.inr rfl) (ls_here (ls_next (by decide) (Or.inr rfl) ls_end))))))))) ?_
          refine g_goto (off := -149) (tgt := 19) X (by decide +kernel) (by decide) ?_
          refine g_sub [0, 1, 2, 3, 4, 5, 6, 7] rfl ?_
          exact ih x5 x6 x7_15  E
        · refine g_if_eq_f (off := 108) (tgt := 165) X (by decide +kernel) (by decide) c14 ?_
          refine g_iload_n (n := 3) X (by decide +kernel) 3 rfl ?_
          refine g_iload (n := 8) X (by decide +kernel) 8 rfl ?_
          refine g_callS1 (st := []) X [.int x3, .int y7] (by decide +kernel) ml11_173 (by decide) (Nat.le_of_ble_eq_true rfl) (c11_has hK x3 y7 h ) ?_
          rcases it_E E with ⟨c16, E⟩ | ⟨c16, E⟩
          · refine g_if_ne_f (off := 99) (tgt := 165) X (by decide +kernel) (by decide) (fun z => z c16) ?_
            refine g_aload_n (n := 0) X (by decide +kernel) 0 rfl ?_
            refine g_getS X (by decide +kernel) fl11_48 px0 ?_
            refine g_bipush (n := 6) (x := (6 : Int32)) X (by decide +kernel) (by decide) ?_
            refine g_iload_n (n := 1) X (by decide +kernel) 1 rfl ?_
            refine g_imul X (by decide +kernel) ?_
            refine g_iload (n := 8) X (by decide +kernel) 8 rfl ?_
            refine g_iadd X (by decide +kernel) ?_
            obtain ⟨c17, E⟩ := gd_E E
            refine g_iald X (by decide +kernel) (ly hK px0 fl11_48 rfl) c17 ?_
            refine g_iconst (n := -1) (x := (-1 : Int32)) X (by decide +kernel) (by decide) ?_
            rcases it_E E with ⟨c18, E⟩ | ⟨c18, E⟩
            · refine g_icmp_eq_t (off := 18) (tgt := 100) X (by decide +kernel) (by decide) c18 ?_
              refine g_aload_n (n := 0) X (by decide +kernel) 0 rfl ?_
              refine g_iload (n := 7) X (by decide +kernel) 7 rfl ?_
              refine g_iconst (n := 3) (x := (3 : Int32)) X (by decide +kernel) (by decide) ?_
              obtain ⟨y20, e19, E⟩ := bp_E E
              refine g_callV1 (st := []) X [.int x7, .int (3 : Int32)] (by decide +kernel) ml11_360 px0 rfl rfl (by decide) (Nat.le_of_ble_eq_true rfl) (c11_routeAt hK x0 x7 (3 : Int32) h px0 e19) ?_
              exact w11_nextWay_J107 X hK x0 x1 x2 x3 x4 x5 x6 x7 y7 y20 ih px0 E
            · refine g_icmp_eq_f (off := 18) (tgt := 100) X (by decide +kernel) (by decide) c18 ?_
              refine g_aload_n (n := 0) X (by decide +kernel) 0 rfl ?_
              refine g_getS X (by decide +kernel) fl11_48 px0 ?_
              refine g_bipush (n := 6) (x := (6 : Int32)) X (by decide +kernel) (by decide) ?_
              refine g_iload_n (n := 1) X (by decide +kernel) 1 rfl ?_
              refine g_imul X (by decide +kernel) ?_
              refine g_iload (n := 8) X (by decide +kernel) 8 rfl ?_
              refine g_iadd X (by decide +kernel) ?_
              obtain ⟨c21, E⟩ := gd_E E
              refine g_iald X (by decide +kernel) (ly hK px0 fl11_48 rfl) c21 ?_
              refine g_goto (off := 10) (tgt := 107) X (by decide +kernel) (by decide) ?_
              exact w11_nextWay_J107 X hK x0 x1 x2 x3 x4 x5 x6 x7 y7 (h.1 (x0 + 13) (((6 : Int32) * x1) + y7).toNatClampNeg) ih px0 E
          · refine g_if_ne_t (off := 99) (tgt := 165) X (by decide +kernel) (by decide) c16 ?_
            obtain ⟨x7_22, ex7_22, E⟩ := lt_E E
            refine s_iinc (i := 7) (n := 1) (y := x7_22) X (by decide +kernel) 7 rfl (by decide) ex7_22 (ls_next (by decide) (Or.inr rfl) (ls_next (by decide) (Or.inr rfl) (ls_next (by decide) (Or.inr rfl) (ls_next (by decide) (Or.inr rfl) (ls_next (by decide) (Or.inr rfl) (ls_next (by decide) (Or.inr rfl) (ls_next (by decide) (Or.inr rfl) (ls_here (ls_next (by decide) (Or.inr rfl) ls_end))))))))) ?_
            refine g_goto (off := -149) (tgt := 19) X (by decide +kernel) (by decide) ?_
            refine g_sub [0, 1, 2, 3, 4, 5, 6, 7] rfl ?_
            exact ih x5 x6 x7_22  E
set_option maxHeartbeats 4000000 in
set_option maxRecDepth 20000 in
theorem c11_nextWay {sp : Sp} {K : Ly} {sz n : Nat} (hK : LyOk K) (o : Nat) (a1 : Int32) (a2 : Int32) (a3 : Int32) (h : Hp) (ho : K o = some (.inl 11)) {v : Int32} (E : f11_nextWay K n o a1 a2 a3 h = some v) : Con sp y11_nextWay prog_13_method_68_code 11 (some (.int)) 4 0 0 [.ref o, .int a1, .int a2, .int a3] sz K h (some (.int v)) sz K h := by
  refine Con.of (by decide) (Nat.le_of_ble_eq_true rfl) (fun Γ X _ => ?_)
  show Go Γ (0, 0) 0 [(0, .ref o), (1, .int a1), (2, .int a2), (3, .int a3)] [] sz K h
  unfold f11_nextWay at E
  refine g_aload_n (n := 0) X (by decide +kernel) 0 rfl ?_
  refine g_iload_n (n := 1) X (by decide +kernel) 1 rfl ?_
  refine g_iload_n (n := 2) X (by decide +kernel) 2 rfl ?_
  obtain ⟨y2, e1, E⟩ := bp_E E
  refine g_callV1 (st := []) X [.int a1, .int a2] (by decide +kernel) ml11_442 ho rfl rfl (by decide) (Nat.le_of_ble_eq_true rfl) (c11_longestAt hK o a1 a2 h ho e1) ?_
  refine s_istore (i := 4) X (by decide +kernel) (by decide) rfl (ls_next (by decide) (Or.inr rfl) (ls_next (by decide) (Or.inr rfl) (ls_next (by decide) (Or.inr rfl) (ls_next (by decide) (Or.inr rfl) (ls_ins ls_end))))) ?_
  refine g_iconst (n := -1) (x := (-1 : Int32)) X (by decide +kernel) (by decide) ?_
  refine s_istore (i := 5) X (by decide +kernel) (by decide) rfl (ls_next (by decide) (Or.inr rfl) (ls_next (by decide) (Or.inr rfl) (ls_next (by decide) (Or.inr rfl) (ls_next (by decide) (Or.inr rfl) (ls_next (by decide) (Or.inr rfl) (ls_ins ls_end)))))) ?_
  refine g_ldc_w (index := 445) (x := (1000000 : Int32)) X (by decide +kernel) (in_c8 47 rfl rfl) ?_
  refine s_istore (i := 6) X (by decide +kernel) (by decide) rfl (ls_next (by decide) (Or.inr rfl) (ls_next (by decide) (Or.inr rfl) (ls_next (by decide) (Or.inr rfl) (ls_next (by decide) (Or.inr rfl) (ls_next (by decide) (Or.inr rfl) (ls_next (by decide) (Or.inr rfl) (ls_ins ls_end))))))) ?_
  refine g_iconst (n := 0) (x := (0 : Int32)) X (by decide +kernel) (by decide) ?_
  refine s_istore (i := 7) X (by decide +kernel) (by decide) rfl (ls_next (by decide) (Or.inr rfl) (ls_next (by decide) (Or.inr rfl) (ls_next (by decide) (Or.inr rfl) (ls_next (by decide) (Or.inr rfl) (ls_next (by decide) (Or.inr rfl) (ls_next (by decide) (Or.inr rfl) (ls_next (by decide) (Or.inr rfl) (ls_ins ls_end)))))))) ?_
  exact w11_nextWay_L19 X hK o a1 a2 a3 y2 ho n (-1 : Int32) (1000000 : Int32) (0 : Int32) E
-- AskedNamesModel.goesOn
def f11_goesOn (K : Ly) (n : Nat) (o : Nat) (a1 : Int32) (a2 : Int32) (h : Hp) : Option (Int32 × Hp) :=
    gd (inb a2 384) <|
    gd (inb a2 384) <|
    gd (inb a2 384) <|
    bp (f11_nextWay K n o a1 (h.1 (o + 19) a2.toNatClampNeg) ((h.1 (o + 21) a2.toNatClampNeg) ||| (h.1 (o + 26) a2.toNatClampNeg)) h) fun y5 =>
    if y5 = (-1 : Int32) then (
    some ((0 : Int32), h))
    else (
    gd (inb a2 384) <|
    lt (sI h (o + 25) a2.toNatClampNeg y5) fun h8 =>
    gd (inb a2 384) <|
    gd (inb a2 384) <|
    lt (sI h8 (o + 26) a2.toNatClampNeg ((h8.1 (o + 26) a2.toNatClampNeg) ||| ((1 : Int32) <<< (y5 &&& 31)))) fun h11 =>
    gd (inb a2 384) <|
    lt (sI h11 (o + 27) a2.toNatClampNeg (h11.1 o 27)) fun h13 =>
    gd (inb a2 384) <|
    gd (inb a2 384) <|
    gd (inb a2 384) <|
    bp (f11_sends K n o (0 : Int32) a1 y5 (h13.1 (o + 19) a2.toNatClampNeg) (h13.1 (o + 20) a2.toNatClampNeg) (h13.1 (o + 24) a2.toNatClampNeg) h13) fun h18 =>
    some ((1 : Int32), h18))
set_option maxHeartbeats 4000000 in
set_option maxRecDepth 20000 in
theorem c11_goesOn {sp : Sp} {K : Ly} {sz n : Nat} (hK : LyOk K) (o : Nat) (a1 : Int32) (a2 : Int32) (h : Hp) (ho : K o = some (.inl 11)) {v : Int32} {hf : Hp} (E : f11_goesOn K n o a1 a2 h = some (v, hf)) : Con sp y11_goesOn prog_13_method_69_code 4 (some (.boolean)) 5 0 0 [.ref o, .int a1, .int a2] sz K h (some (.int v)) sz K hf := by
  refine Con.of (by decide) (Nat.le_of_ble_eq_true rfl) (fun Γ X _ => ?_)
  show Go Γ (0, 0) 0 [(0, .ref o), (1, .int a1), (2, .int a2)] [] sz K h
  unfold f11_goesOn at E
  refine g_aload_n (n := 0) X (by decide +kernel) 0 rfl ?_
  refine g_iload_n (n := 1) X (by decide +kernel) 1 rfl ?_
  refine g_aload_n (n := 0) X (by decide +kernel) 0 rfl ?_
  refine g_getS X (by decide +kernel) fl11_66 ho ?_
  refine g_iload_n (n := 2) X (by decide +kernel) 2 rfl ?_
  obtain ⟨c1, E⟩ := gd_E E
  refine g_iald X (by decide +kernel) (ly hK ho fl11_66 rfl) c1 ?_
  refine g_aload_n (n := 0) X (by decide +kernel) 0 rfl ?_
  refine g_getS X (by decide +kernel) fl11_72 ho ?_
  refine g_iload_n (n := 2) X (by decide +kernel) 2 rfl ?_
  obtain ⟨c2, E⟩ := gd_E E
  refine g_iald X (by decide +kernel) (ly hK ho fl11_72 rfl) c2 ?_
  refine g_aload_n (n := 0) X (by decide +kernel) 0 rfl ?_
  refine g_getS X (by decide +kernel) fl11_87 ho ?_
  refine g_iload_n (n := 2) X (by decide +kernel) 2 rfl ?_
  obtain ⟨c3, E⟩ := gd_E E
  refine g_iald X (by decide +kernel) (ly hK ho fl11_87 rfl) c3 ?_
  refine g_ior X (by decide +kernel) ?_
  obtain ⟨y5, e4, E⟩ := bp_E E
  refine g_callV1 (st := []) X [.int a1, .int (h.1 (o + 19) a2.toNatClampNeg), .int ((h.1 (o + 21) a2.toNatClampNeg) ||| (h.1 (o + 26) a2.toNatClampNeg))] (by decide +kernel) ml11_449 ho rfl rfl (by decide) (Nat.le_of_ble_eq_true rfl) (c11_nextWay hK o a1 (h.1 (o + 19) a2.toNatClampNeg) ((h.1 (o + 21) a2.toNatClampNeg) ||| (h.1 (o + 26) a2.toNatClampNeg)) h ho e4) ?_
  refine s_istore_n (n := 3) (i := 3) X (by decide +kernel) rfl (by decide) rfl (ls_next (by decide) (Or.inr rfl) (ls_next (by decide) (Or.inr rfl) (ls_next (by decide) (Or.inr rfl) (ls_ins ls_end)))) ?_
  refine g_iload_n (n := 3) X (by decide +kernel) 3 rfl ?_
  refine g_iconst (n := -1) (x := (-1 : Int32)) X (by decide +kernel) (by decide) ?_
  rcases it_E E with ⟨c6, E⟩ | ⟨c6, E⟩
  · refine g_icmp_ne_f (off := 5) (tgt := 32) X (by decide +kernel) (by decide) (fun z => z c6) ?_
    refine g_iconst (n := 0) (x := (0 : Int32)) X (by decide +kernel) (by decide) ?_
    obtain ⟨rfl, rfl⟩ := rt_E E
    exact g_zreturn X (by decide +kernel) rfl
  · refine g_icmp_ne_t (off := 5) (tgt := 32) X (by decide +kernel) (by decide) c6 ?_
    refine g_aload_n (n := 0) X (by decide +kernel) 0 rfl ?_
    refine g_getS X (by decide +kernel) fl11_84 ho ?_
    refine g_iload_n (n := 2) X (by decide +kernel) 2 rfl ?_
    refine g_iload_n (n := 3) X (by decide +kernel) 3 rfl ?_
    obtain ⟨c7, E⟩ := gd_E E
    obtain ⟨h8, eh8, E⟩ := lt_E E
    refine g_iast X (by decide +kernel) (ly hK ho fl11_84 rfl) c7 eh8 ?_
    refine g_aload_n (n := 0) X (by decide +kernel) 0 rfl ?_
    refine g_getS X (by decide +kernel) fl11_87 ho ?_
    refine g_iload_n (n := 2) X (by decide +kernel) 2 rfl ?_
    refine g_dup2 X (by decide +kernel) rfl rfl ?_
    obtain ⟨c9, E⟩ := gd_E E
    refine g_iald X (by decide +kernel) (ly hK ho fl11_87 rfl) c9 ?_
    refine g_iconst (n := 1) (x := (1 : Int32)) X (by decide +kernel) (by decide) ?_
    refine g_iload_n (n := 3) X (by decide +kernel) 3 rfl ?_
    refine g_ishl X (by decide +kernel) ?_
    refine g_ior X (by decide +kernel) ?_
    obtain ⟨c10, E⟩ := gd_E E
    obtain ⟨h11, eh11, E⟩ := lt_E E
    refine g_iast X (by decide +kernel) (ly hK ho fl11_87 rfl) c10 eh11 ?_
    refine g_aload_n (n := 0) X (by decide +kernel) 0 rfl ?_
    refine g_getS X (by decide +kernel) fl11_90 ho ?_
    refine g_iload_n (n := 2) X (by decide +kernel) 2 rfl ?_
    refine g_aload_n (n := 0) X (by decide +kernel) 0 rfl ?_
    refine g_getI X (by decide +kernel) fl11_384 ho ?_
    obtain ⟨c12, E⟩ := gd_E E
    obtain ⟨h13, eh13, E⟩ := lt_E E
    refine g_iast X (by decide +kernel) (ly hK ho fl11_90 rfl) c12 eh13 ?_
    refine g_aload_n (n := 0) X (by decide +kernel) 0 rfl ?_
    refine g_iconst (n := 0) (x := (0 : Int32)) X (by decide +kernel) (by decide) ?_
    refine g_iload_n (n := 1) X (by decide +kernel) 1 rfl ?_
    refine g_iload_n (n := 3) X (by decide +kernel) 3 rfl ?_
    refine g_aload_n (n := 0) X (by decide +kernel) 0 rfl ?_
    refine g_getS X (by decide +kernel) fl11_66 ho ?_
    refine g_iload_n (n := 2) X (by decide +kernel) 2 rfl ?_
    obtain ⟨c14, E⟩ := gd_E E
    refine g_iald X (by decide +kernel) (ly hK ho fl11_66 rfl) c14 ?_
    refine g_aload_n (n := 0) X (by decide +kernel) 0 rfl ?_
    refine g_getS X (by decide +kernel) fl11_69 ho ?_
    refine g_iload_n (n := 2) X (by decide +kernel) 2 rfl ?_
    obtain ⟨c15, E⟩ := gd_E E
    refine g_iald X (by decide +kernel) (ly hK ho fl11_69 rfl) c15 ?_
    refine g_aload_n (n := 0) X (by decide +kernel) 0 rfl ?_
    refine g_getS X (by decide +kernel) fl11_81 ho ?_
    refine g_iload_n (n := 2) X (by decide +kernel) 2 rfl ?_
    obtain ⟨c16, E⟩ := gd_E E
    refine g_iald X (by decide +kernel) (ly hK ho fl11_81 rfl) c16 ?_
    obtain ⟨h18, e17, E⟩ := bp_E E
    refine g_callV0 (st := []) X [.int (0 : Int32), .int a1, .int y5, .int (h13.1 (o + 19) a2.toNatClampNeg), .int (h13.1 (o + 20) a2.toNatClampNeg), .int (h13.1 (o + 24) a2.toNatClampNeg)] (by decide +kernel) ml11_426 ho rfl rfl (by decide) (Nat.le_of_ble_eq_true rfl) (c11_sends hK o (0 : Int32) a1 y5 (h13.1 (o + 19) a2.toNatClampNeg) (h13.1 (o + 20) a2.toNatClampNeg) (h13.1 (o + 24) a2.toNatClampNeg) h13 ho e17) ?_
    refine g_iconst (n := 1) (x := (1 : Int32)) X (by decide +kernel) (by decide) ?_
    obtain ⟨rfl, rfl⟩ := rt_E E
    exact g_zreturn X (by decide +kernel) rfl
-- AskedNamesModel.joins
def f11_joins_J36 (K : Ly) (n : Nat)  (x0 : Nat) (x1 : Int32) (x3 : Int32) (h : Hp) : Option Hp :=
    gd (inb x1 384) <|
    gd (inb x1 384) <|
    lt (sL h (x0 + 23) x1.toNatClampNeg ((h.2.1 (x0 + 23) x1.toNatClampNeg) ||| ((1 : Int64) <<< (x3.toInt64 &&& 63)))) fun h10 =>
    some h10
def f11_joins (K : Ly) (n : Nat) (o : Nat) (a1 : Int32) (a2 : Int32) (a3 : Int32) (h : Hp) : Option Hp :=
    if a2 < (100 : Int32) then (
    gd (inb a1 384) <|
    gd (inb a1 384) <|
    lt (sI h (o + 21) a1.toNatClampNeg ((h.1 (o + 21) a1.toNatClampNeg) ||| ((1 : Int32) <<< (a2 &&& 31)))) fun h4 =>
    f11_joins_J36 K n o a1 a3 h4)
    else (
    gd (inb a1 384) <|
    gd (inb a1 384) <|
    lt (sL h (o + 22) a1.toNatClampNeg ((h.2.1 (o + 22) a1.toNatClampNeg) ||| ((1 : Int64) <<< ((a2 - (100 : Int32)).toInt64 &&& 63)))) fun h7 =>
    f11_joins_J36 K n o a1 a3 h7)
set_option maxHeartbeats 4000000 in
set_option maxRecDepth 20000 in
theorem w11_joins_J36 {Γ : CT} {sp : Sp} {K : Ly} {sz n : Nat} {hf : Hp}   (X : Ok Γ sp prog_13_method_70_code Rc11 4 none 1 none sz K hf) (hK : LyOk K) (x0 : Nat) (x1 : Int32) (x3 : Int32) (h : Hp)  (px0 : K x0 = some (.inl 11)) (E : f11_joins_J36 K n x0 x1 x3 h = some hf) : Go Γ (0, 0) 36 [(0, .ref x0), (1, .int x1), (3, .int x3)] [] sz K h := by
  unfold f11_joins_J36 at E
  refine g_aload_n (n := 0) X (by decide +kernel) 0 rfl ?_
  refine g_getS X (by decide +kernel) fl11_78 px0 ?_
  refine g_iload_n (n := 1) X (by decide +kernel) 1 rfl ?_
  refine g_dup2 X (by decide +kernel) rfl rfl ?_
  obtain ⟨c8, E⟩ := gd_E E
  refine g_lald X (by decide +kernel) (ly hK px0 fl11_78 rfl) c8 ?_
  refine g_lconst (n := 1) (x := (1 : Int64)) X (by decide +kernel) (by decide) ?_
  refine g_iload_n (n := 3) X (by decide +kernel) 2 rfl ?_
  refine g_lshl X (by decide +kernel) ?_
  refine g_lor X (by decide +kernel) ?_
  obtain ⟨c9, E⟩ := gd_E E
  obtain ⟨h10, eh10, E⟩ := lt_E E
  refine g_last X (by decide +kernel) (ly hK px0 fl11_78 rfl) c9 eh10 ?_
  obtain rfl := Option.some.inj E
  exact g_return X (by decide +kernel)
set_option maxHeartbeats 4000000 in
set_option maxRecDepth 20000 in
theorem c11_joins {sp : Sp} {K : Ly} {sz n : Nat} (hK : LyOk K) (o : Nat) (a1 : Int32) (a2 : Int32) (a3 : Int32) (h : Hp) (ho : K o = some (.inl 11)) {hf : Hp} (E : f11_joins K n o a1 a2 a3 h = some hf) : Con sp y11_joins prog_13_method_70_code 4 none 1 0 0 [.ref o, .int a1, .int a2, .int a3] sz K h none sz K hf := by
  refine Con.of (by decide) (Nat.le_of_ble_eq_true rfl) (fun Γ X _ => ?_)
  show Go Γ (0, 0) 0 [(0, .ref o), (1, .int a1), (2, .int a2), (3, .int a3)] [] sz K h
  unfold f11_joins at E
  refine g_iload_n (n := 2) X (by decide +kernel) 2 rfl ?_
  refine g_bipush (n := 100) (x := (100 : Int32)) X (by decide +kernel) (by decide) ?_
  rcases it_E E with ⟨c1, E⟩ | ⟨c1, E⟩
  · refine g_icmp_lt_t (off := 21) (tgt := 24) X (by decide +kernel) (by decide) c1 ?_
    refine g_aload_n (n := 0) X (by decide +kernel) 0 rfl ?_
    refine g_getS X (by decide +kernel) fl11_72 ho ?_
    refine g_iload_n (n := 1) X (by decide +kernel) 1 rfl ?_
    refine g_dup2 X (by decide +kernel) rfl rfl ?_
    obtain ⟨c2, E⟩ := gd_E E
    refine g_iald X (by decide +kernel) (ly hK ho fl11_72 rfl) c2 ?_
    refine g_iconst (n := 1) (x := (1 : Int32)) X (by decide +kernel) (by decide) ?_
    refine g_iload_n (n := 2) X (by decide +kernel) 2 rfl ?_
    refine g_ishl X (by decide +kernel) ?_
    refine g_ior X (by decide +kernel) ?_
    obtain ⟨c3, E⟩ := gd_E E
    obtain ⟨h4, eh4, E⟩ := lt_E E
    refine g_iast X (by decide +kernel) (ly hK ho fl11_72 rfl) c3 eh4 ?_
    refine g_sub [0, 1, 3] rfl ?_
    exact w11_joins_J36 X hK o a1 a3 h4 ho E
  · refine g_icmp_lt_f (off := 21) (tgt := 24) X (by decide +kernel) (by decide) c1 ?_
    refine g_aload_n (n := 0) X (by decide +kernel) 0 rfl ?_
    refine g_getS X (by decide +kernel) fl11_75 ho ?_
    refine g_iload_n (n := 1) X (by decide +kernel) 1 rfl ?_
    refine g_dup2 X (by decide +kernel) rfl rfl ?_
    obtain ⟨c5, E⟩ := gd_E E
    refine g_lald X (by decide +kernel) (ly hK ho fl11_75 rfl) c5 ?_
    refine g_lconst (n := 1) (x := (1 : Int64)) X (by decide +kernel) (by decide) ?_
    refine g_iload_n (n := 2) X (by decide +kernel) 2 rfl ?_
    refine g_bipush (n := 100) (x := (100 : Int32)) X (by decide +kernel) (by decide) ?_
    refine g_isub X (by decide +kernel) ?_
    refine g_lshl X (by decide +kernel) ?_
    refine g_lor X (by decide +kernel) ?_
    obtain ⟨c6, E⟩ := gd_E E
    obtain ⟨h7, eh7, E⟩ := lt_E E
    refine g_last X (by decide +kernel) (ly hK ho fl11_75 rfl) c6 eh7 ?_
    refine g_goto (off := 15) (tgt := 36) X (by decide +kernel) (by decide) ?_
    refine g_sub [0, 1, 3] rfl ?_
    exact w11_joins_J36 X hK o a1 a3 h7 ho E
-- AskedNamesModel.makesEntry
def f11_makesEntry (K : Ly) (n : Nat) (o : Nat) (a1 : Int32) (a2 : Int32) (a3 : Int32) (a4 : Int32) (a5 : Int32) (h : Hp) : Option Hp :=
    gd (inb a1 6) <|
    lt (((64 : Int32) * a1) + (h.1 (o + 18) a1.toNatClampNeg)) fun x6_2 =>
    gd (inb a1 6) <|
    gd (inb a1 6) <|
    lt (sI h (o + 18) a1.toNatClampNeg ((h.1 (o + 18) a1.toNatClampNeg) + (1 : Int32))) fun h5 =>
    gd (inb x6_2 384) <|
    lt (sI h5 (o + 19) x6_2.toNatClampNeg a3) fun h7 =>
    gd (inb x6_2 384) <|
    lt (sI h7 (o + 20) x6_2.toNatClampNeg a4) fun h9 =>
    gd (inb x6_2 384) <|
    lt (sI h9 (o + 21) x6_2.toNatClampNeg (0 : Int32)) fun h11 =>
    gd (inb x6_2 384) <|
    lt (sL h11 (o + 22) x6_2.toNatClampNeg (0 : Int64)) fun h13 =>
    gd (inb x6_2 384) <|
    lt (sL h13 (o + 23) x6_2.toNatClampNeg (0 : Int64)) fun h15 =>
    gd (inb x6_2 384) <|
    lt (sI h15 (o + 24) x6_2.toNatClampNeg a5) fun h17 =>
    gd (inb x6_2 384) <|
    lt (sI h17 (o + 25) x6_2.toNatClampNeg (-1 : Int32)) fun h19 =>
    gd (inb x6_2 384) <|
    lt (sI h19 (o + 26) x6_2.toNatClampNeg (0 : Int32)) fun h21 =>
    gd (inb x6_2 384) <|
    lt (sI h21 (o + 27) x6_2.toNatClampNeg (0 : Int32)) fun h23 =>
    gd (inb x6_2 384) <|
    lt (sI h23 (o + 28) x6_2.toNatClampNeg ((h23.1 o 27) + (h23.1 o 24))) fun h25 =>
    bp (f11_joins K n o x6_2 a2 a5 h25) fun h27 =>
    bd (f11_goesOn K n o a1 x6_2 h27) fun y30 h29 =>
    if y30 = 0 then (
    bp (f11_removes K n o a1 x6_2 h29) fun h33 =>
    bp (f11_firstNack K n o a1 a2 a3 a4 (1 : Int32) h33) fun h35 =>
    some h35)
    else (
    some h29)
set_option maxHeartbeats 4000000 in
set_option maxRecDepth 20000 in
theorem c11_makesEntry {sp : Sp} {K : Ly} {sz n : Nat} (hK : LyOk K) (o : Nat) (a1 : Int32) (a2 : Int32) (a3 : Int32) (a4 : Int32) (a5 : Int32) (h : Hp) (ho : K o = some (.inl 11)) {hf : Hp} (E : f11_makesEntry K n o a1 a2 a3 a4 a5 h = some hf) : Con sp y11_makesEntry prog_13_method_71_code 7 none 6 0 0 [.ref o, .int a1, .int a2, .int a3, .int a4, .int a5] sz K h none sz K hf := by
  refine Con.of (by decide) (Nat.le_of_ble_eq_true rfl) (fun Γ X _ => ?_)
  show Go Γ (0, 0) 0 [(0, .ref o), (1, .int a1), (2, .int a2), (3, .int a3), (4, .int a4), (5, .int a5)] [] sz K h
  unfold f11_makesEntry at E
  refine g_bipush (n := 64) (x := (64 : Int32)) X (by decide +kernel) (by decide) ?_
  refine g_iload_n (n := 1) X (by decide +kernel) 1 rfl ?_
  refine g_imul X (by decide +kernel) ?_
  refine g_aload_n (n := 0) X (by decide +kernel) 0 rfl ?_
  refine g_getS X (by decide +kernel) fl11_63 ho ?_
  refine g_iload_n (n := 1) X (by decide +kernel) 1 rfl ?_
  obtain ⟨c1, E⟩ := gd_E E
  refine g_iald X (by decide +kernel) (ly hK ho fl11_63 rfl) c1 ?_
  refine g_iadd X (by decide +kernel) ?_
  obtain ⟨x6_2, ex6_2, E⟩ := lt_E E
  refine s_istore (i := 6) X (by decide +kernel) (by decide) ex6_2 (ls_next (by decide) (Or.inr rfl) (ls_next (by decide) (Or.inr rfl) (ls_next (by decide) (Or.inr rfl) (ls_next (by decide) (Or.inr rfl) (ls_next (by decide) (Or.inr rfl) (ls_next (by decide) (Or.inr rfl) (ls_ins ls_end))))))) ?_
  refine g_aload_n (n := 0) X (by decide +kernel) 0 rfl ?_
  refine g_getS X (by decide +kernel) fl11_63 ho ?_
  refine g_iload_n (n := 1) X (by decide +kernel) 1 rfl ?_
  refine g_dup2 X (by decide +kernel) rfl rfl ?_
  obtain ⟨c3, E⟩ := gd_E E
  refine g_iald X (by decide +kernel) (ly hK ho fl11_63 rfl) c3 ?_
  refine g_iconst (n := 1) (x := (1 : Int32)) X (by decide +kernel) (by decide) ?_
  refine g_iadd X (by decide +kernel) ?_
  obtain ⟨c4, E⟩ := gd_E E
  obtain ⟨h5, eh5, E⟩ := lt_E E
  refine g_iast X (by decide +kernel) (ly hK ho fl11_63 rfl) c4 eh5 ?_
  refine g_aload_n (n := 0) X (by decide +kernel) 0 rfl ?_
  refine g_getS X (by decide +kernel) fl11_66 ho ?_
  refine g_iload (n := 6) X (by decide +kernel) 6 rfl ?_
  refine g_iload_n (n := 3) X (by decide +kernel) 3 rfl ?_
  obtain ⟨c6, E⟩ := gd_E E
  obtain ⟨h7, eh7, E⟩ := lt_E E
  refine g_iast X (by decide +kernel) (ly hK ho fl11_66 rfl) c6 eh7 ?_
  refine g_aload_n (n := 0) X (by decide +kernel) 0 rfl ?_
  refine g_getS X (by decide +kernel) fl11_69 ho ?_
  refine g_iload (n := 6) X (by decide +kernel) 6 rfl ?_
  refine g_iload (n := 4) X (by decide +kernel) 4 rfl ?_
  obtain ⟨c8, E⟩ := gd_E E
  obtain ⟨h9, eh9, E⟩ := lt_E E
  refine g_iast X (by decide +kernel) (ly hK ho fl11_69 rfl) c8 eh9 ?_
  refine g_aload_n (n := 0) X (by decide +kernel) 0 rfl ?_
  refine g_getS X (by decide +kernel) fl11_72 ho ?_
  refine g_iload (n := 6) X (by decide +kernel) 6 rfl ?_
  refine g_iconst (n := 0) (x := (0 : Int32)) X (by decide +kernel) (by decide) ?_
  obtain ⟨c10, E⟩ := gd_E E
  obtain ⟨h11, eh11, E⟩ := lt_E E
  refine g_iast X (by decide +kernel) (ly hK ho fl11_72 rfl) c10 eh11 ?_
  refine g_aload_n (n := 0) X (by decide +kernel) 0 rfl ?_
  refine g_getS X (by decide +kernel) fl11_75 ho ?_
  refine g_iload (n := 6) X (by decide +kernel) 6 rfl ?_
  refine g_lconst (n := 0) (x := (0 : Int64)) X (by decide +kernel) (by decide) ?_
  obtain ⟨c12, E⟩ := gd_E E
  obtain ⟨h13, eh13, E⟩ := lt_E E
  refine g_last X (by decide +kernel) (ly hK ho fl11_75 rfl) c12 eh13 ?_
  refine g_aload_n (n := 0) X (by decide +kernel) 0 rfl ?_
  refine g_getS X (by decide +kernel) fl11_78 ho ?_
  refine g_iload (n := 6) X (by decide +kernel) 6 rfl ?_
  refine g_lconst (n := 0) (x := (0 : Int64)) X (by decide +kernel) (by decide) ?_
  obtain ⟨c14, E⟩ := gd_E E
  obtain ⟨h15, eh15, E⟩ := lt_E E
  refine g_last X (by decide +kernel) (ly hK ho fl11_78 rfl) c14 eh15 ?_
  refine g_aload_n (n := 0) X (by decide +kernel) 0 rfl ?_
  refine g_getS X (by decide +kernel) fl11_81 ho ?_
  refine g_iload (n := 6) X (by decide +kernel) 6 rfl ?_
  refine g_iload (n := 5) X (by decide +kernel) 5 rfl ?_
  obtain ⟨c16, E⟩ := gd_E E
  obtain ⟨h17, eh17, E⟩ := lt_E E
  refine g_iast X (by decide +kernel) (ly hK ho fl11_81 rfl) c16 eh17 ?_
  refine g_aload_n (n := 0) X (by decide +kernel) 0 rfl ?_
  refine g_getS X (by decide +kernel) fl11_84 ho ?_
  refine g_iload (n := 6) X (by decide +kernel) 6 rfl ?_
  refine g_iconst (n := -1) (x := (-1 : Int32)) X (by decide +kernel) (by decide) ?_
  obtain ⟨c18, E⟩ := gd_E E
  obtain ⟨h19, eh19, E⟩ := lt_E E
  refine g_iast X (by decide +kernel) (ly hK ho fl11_84 rfl) c18 eh19 ?_
  refine g_aload_n (n := 0) X (by decide +kernel) 0 rfl ?_
  refine g_getS X (by decide +kernel) fl11_87 ho ?_
  refine g_iload (n := 6) X (by decide +kernel) 6 rfl ?_
  refine g_iconst (n := 0) (x := (0 : Int32)) X (by decide +kernel) (by decide) ?_
  obtain ⟨c20, E⟩ := gd_E E
  obtain ⟨h21, eh21, E⟩ := lt_E E
  refine g_iast X (by decide +kernel) (ly hK ho fl11_87 rfl) c20 eh21 ?_
  refine g_aload_n (n := 0) X (by decide +kernel) 0 rfl ?_
  refine g_getS X (by decide +kernel) fl11_90 ho ?_
  refine g_iload (n := 6) X (by decide +kernel) 6 rfl ?_
  refine g_iconst (n := 0) (x := (0 : Int32)) X (by decide +kernel) (by decide) ?_
  obtain ⟨c22, E⟩ := gd_E E
  obtain ⟨h23, eh23, E⟩ := lt_E E
  refine g_iast X (by decide +kernel) (ly hK ho fl11_90 rfl) c22 eh23 ?_
  refine g_aload_n (n := 0) X (by decide +kernel) 0 rfl ?_
  refine g_getS X (by decide +kernel) fl11_93 ho ?_
  refine g_iload (n := 6) X (by decide +kernel) 6 rfl ?_
  refine g_aload_n (n := 0) X (by decide +kernel) 0 rfl ?_
  refine g_getI X (by decide +kernel) fl11_384 ho ?_
  refine g_aload_n (n := 0) X (by decide +kernel) 0 rfl ?_
  refine g_getI X (by decide +kernel) fl11_342 ho ?_
  refine g_iadd X (by decide +kernel) ?_
  obtain ⟨c24, E⟩ := gd_E E
  obtain ⟨h25, eh25, E⟩ := lt_E E
  refine g_iast X (by decide +kernel) (ly hK ho fl11_93 rfl) c24 eh25 ?_
  refine g_aload_n (n := 0) X (by decide +kernel) 0 rfl ?_
  refine g_iload (n := 6) X (by decide +kernel) 6 rfl ?_
  refine g_iload_n (n := 2) X (by decide +kernel) 2 rfl ?_
  refine g_iload (n := 5) X (by decide +kernel) 5 rfl ?_
  obtain ⟨h27, e26, E⟩ := bp_E E
  refine g_callV0 (st := []) X [.int x6_2, .int a2, .int a5] (by decide +kernel) ml11_453 ho rfl rfl (by decide) (Nat.le_of_ble_eq_true rfl) (c11_joins hK o x6_2 a2 a5 h25 ho e26) ?_
  refine g_aload_n (n := 0) X (by decide +kernel) 0 rfl ?_
  refine g_iload_n (n := 1) X (by decide +kernel) 1 rfl ?_
  refine g_iload (n := 6) X (by decide +kernel) 6 rfl ?_
  obtain ⟨y30, h29, e28, E⟩ := bd_E E
  refine g_callV1 (st := []) X [.int a1, .int x6_2] (by decide +kernel) ml11_456 ho rfl rfl (by decide) (Nat.le_of_ble_eq_true rfl) (c11_goesOn hK o a1 x6_2 h27 ho e28) ?_
  rcases it_E E with ⟨c31, E⟩ | ⟨c31, E⟩
  · refine g_if_ne_f (off := 20) (tgt := 149) X (by decide +kernel) (by decide) (fun z => z c31) ?_
    refine g_aload_n (n := 0) X (by decide +kernel) 0 rfl ?_
    refine g_iload_n (n := 1) X (by decide +kernel) 1 rfl ?_
    refine g_iload (n := 6) X (by decide +kernel) 6 rfl ?_
    obtain ⟨h33, e32, E⟩ := bp_E E
    refine g_callV0 (st := []) X [.int a1, .int x6_2] (by decide +kernel) ml11_459 ho rfl rfl (by decide) (Nat.le_of_ble_eq_true rfl) (c11_removes hK o a1 x6_2 h29 ho e32) ?_
    refine g_aload_n (n := 0) X (by decide +kernel) 0 rfl ?_
    refine g_iload_n (n := 1) X (by decide +kernel) 1 rfl ?_
    refine g_iload_n (n := 2) X (by decide +kernel) 2 rfl ?_
    refine g_iload_n (n := 3) X (by decide +kernel) 3 rfl ?_
    refine g_iload (n := 4) X (by decide +kernel) 4 rfl ?_
    refine g_iconst (n := 1) (x := (1 : Int32)) X (by decide +kernel) (by decide) ?_
    obtain ⟨h35, e34, E⟩ := bp_E E
    refine g_callV0 (st := []) X [.int a1, .int a2, .int a3, .int a4, .int (1 : Int32)] (by decide +kernel) ml11_462 ho rfl rfl (by decide) (Nat.le_of_ble_eq_true rfl) (c11_firstNack hK o a1 a2 a3 a4 (1 : Int32) h33 ho e34) ?_
    obtain rfl := Option.some.inj E
    exact g_return X (by decide +kernel)
  · refine g_if_ne_t (off := 20) (tgt := 149) X (by decide +kernel) (by decide) c31 ?_
    obtain rfl := Option.some.inj E
    exact g_return X (by decide +kernel)
-- AskedNamesModel.fromStore
def f11_fromStore (K : Ly) (n : Nat) (o : Nat) (a1 : Int32) (a2 : Int32) (a3 : Int32) (a4 : Int32) (h : Hp) : Option Hp :=
    lt (((6 : Int32) * a1) + a2) fun x5_1 =>
    gd (inb x5_1 36) <|
    lt (sI h o 71 (h.1 (o + 16) x5_1.toNatClampNeg)) fun h3 =>
    gd (inb x5_1 36) <|
    lt (sI h3 o 72 (h3.1 (o + 17) x5_1.toNatClampNeg)) fun h5 =>
    lt (sI h5 o 73 a1) fun h6 =>
    lt (sI h6 o 74 (1 : Int32)) fun h7 =>
    bp (f11_putsLast K n o a1 a4 (h7.1 o 71) (h7.1 o 72) h7) fun h9 =>
    lt (sI h9 o 66 ((h9.1 o 66) + (1 : Int32))) fun h10 =>
    bp (f11_dataTo K n o a1 a3 a4 h10) fun h12 =>
    some h12
set_option maxHeartbeats 4000000 in
set_option maxRecDepth 20000 in
theorem c11_fromStore {sp : Sp} {K : Ly} {sz n : Nat} (hK : LyOk K) (o : Nat) (a1 : Int32) (a2 : Int32) (a3 : Int32) (a4 : Int32) (h : Hp) (ho : K o = some (.inl 11)) {hf : Hp} (E : f11_fromStore K n o a1 a2 a3 a4 h = some hf) : Con sp y11_fromStore prog_13_method_72_code 6 none 5 0 0 [.ref o, .int a1, .int a2, .int a3, .int a4] sz K h none sz K hf := by
  refine Con.of (by decide) (Nat.le_of_ble_eq_true rfl) (fun Γ X _ => ?_)
  show Go Γ (0, 0) 0 [(0, .ref o), (1, .int a1), (2, .int a2), (3, .int a3), (4, .int a4)] [] sz K h
  unfold f11_fromStore at E
  refine g_bipush (n := 6) (x := (6 : Int32)) X (by decide +kernel) (by decide) ?_
  refine g_iload_n (n := 1) X (by decide +kernel) 1 rfl ?_
  refine g_imul X (by decide +kernel) ?_
  refine g_iload_n (n := 2) X (by decide +kernel) 2 rfl ?_
  refine g_iadd X (by decide +kernel) ?_
  obtain ⟨x5_1, ex5_1, E⟩ := lt_E E
  refine s_istore (i := 5) X (by decide +kernel) (by decide) ex5_1 (ls_next (by decide) (Or.inr rfl) (ls_next (by decide) (Or.inr rfl) (ls_next (by decide) (Or.inr rfl) (ls_next (by decide) (Or.inr rfl) (ls_next (by decide) (Or.inr rfl) (ls_ins ls_end)))))) ?_
  refine g_aload_n (n := 0) X (by decide +kernel) 0 rfl ?_
  refine g_aload_n (n := 0) X (by decide +kernel) 0 rfl ?_
  refine g_getS X (by decide +kernel) fl11_57 ho ?_
  refine g_iload (n := 5) X (by decide +kernel) 5 rfl ?_
  obtain ⟨c2, E⟩ := gd_E E
  refine g_iald X (by decide +kernel) (ly hK ho fl11_57 rfl) c2 ?_
  obtain ⟨h3, eh3, E⟩ := lt_E E
  refine g_putI X (by decide +kernel) fp11_411 ho eh3 ?_
  refine g_aload_n (n := 0) X (by decide +kernel) 0 rfl ?_
  refine g_aload_n (n := 0) X (by decide +kernel) 0 rfl ?_
  refine g_getS X (by decide +kernel) fl11_60 ho ?_
  refine g_iload (n := 5) X (by decide +kernel) 5 rfl ?_
  obtain ⟨c4, E⟩ := gd_E E
  refine g_iald X (by decide +kernel) (ly hK ho fl11_60 rfl) c4 ?_
  obtain ⟨h5, eh5, E⟩ := lt_E E
  refine g_putI X (by decide +kernel) fp11_414 ho eh5 ?_
  refine g_aload_n (n := 0) X (by decide +kernel) 0 rfl ?_
  refine g_iload_n (n := 1) X (by decide +kernel) 1 rfl ?_
  obtain ⟨h6, eh6, E⟩ := lt_E E
  refine g_putI X (by decide +kernel) fp11_417 ho eh6 ?_
  refine g_aload_n (n := 0) X (by decide +kernel) 0 rfl ?_
  refine g_iconst (n := 1) (x := (1 : Int32)) X (by decide +kernel) (by decide) ?_
  obtain ⟨h7, eh7, E⟩ := lt_E E
  refine g_putI X (by decide +kernel) fp11_420 ho eh7 ?_
  refine g_aload_n (n := 0) X (by decide +kernel) 0 rfl ?_
  refine g_iload_n (n := 1) X (by decide +kernel) 1 rfl ?_
  refine g_iload (n := 4) X (by decide +kernel) 4 rfl ?_
  refine g_aload_n (n := 0) X (by decide +kernel) 0 rfl ?_
  refine g_getI X (by decide +kernel) fl11_411 ho ?_
  refine g_aload_n (n := 0) X (by decide +kernel) 0 rfl ?_
  refine g_getI X (by decide +kernel) fl11_414 ho ?_
  obtain ⟨h9, e8, E⟩ := bp_E E
  refine g_callV0 (st := []) X [.int a1, .int a4, .int (h7.1 o 71), .int (h7.1 o 72)] (by decide +kernel) ml11_466 ho rfl rfl (by decide) (Nat.le_of_ble_eq_true rfl) (c11_putsLast hK o a1 a4 (h7.1 o 71) (h7.1 o 72) h7 ho e8) ?_
  refine g_aload_n (n := 0) X (by decide +kernel) 0 rfl ?_
  refine g_dup X (by decide +kernel) rfl ?_
  refine g_getI X (by decide +kernel) fl11_393 ho ?_
  refine g_iconst (n := 1) (x := (1 : Int32)) X (by decide +kernel) (by decide) ?_
  refine g_iadd X (by decide +kernel) ?_
  obtain ⟨h10, eh10, E⟩ := lt_E E
  refine g_putI X (by decide +kernel) fp11_393 ho eh10 ?_
  refine g_aload_n (n := 0) X (by decide +kernel) 0 rfl ?_
  refine g_iload_n (n := 1) X (by decide +kernel) 1 rfl ?_
  refine g_iload_n (n := 3) X (by decide +kernel) 3 rfl ?_
  refine g_iload (n := 4) X (by decide +kernel) 4 rfl ?_
  obtain ⟨h12, e11, E⟩ := bp_E E
  refine g_callV0 (st := []) X [.int a1, .int a3, .int a4] (by decide +kernel) ml11_469 ho rfl rfl (by decide) (Nat.le_of_ble_eq_true rfl) (c11_dataTo hK o a1 a3 a4 h10 ho e11) ?_
  obtain rfl := Option.some.inj E
  exact g_return X (by decide +kernel)
-- AskedNamesModel.fromServer
def f11_fromServer (K : Ly) (n : Nat) (o : Nat) (a1 : Int32) (a2 : Int32) (a3 : Int32) (a4 : Int32) (h : Hp) : Option Hp :=
    bp (f11_serveAt K n o a2 (2 : Int32) h) fun y2 =>
    lt (sI h o 71 ((h.1 o 27) + y2)) fun h3 =>
    lt (sI h3 o 72 a1) fun h4 =>
    lt (sI h4 o 73 a1) fun h5 =>
    lt (sI h5 o 74 (0 : Int32)) fun h6 =>
    bp (f11_dataTo K n o a1 a3 a4 h6) fun h8 =>
    some h8
set_option maxHeartbeats 4000000 in
set_option maxRecDepth 20000 in
theorem c11_fromServer {sp : Sp} {K : Ly} {sz n : Nat} (hK : LyOk K) (o : Nat) (a1 : Int32) (a2 : Int32) (a3 : Int32) (a4 : Int32) (h : Hp) (ho : K o = some (.inl 11)) {hf : Hp} (E : f11_fromServer K n o a1 a2 a3 a4 h = some hf) : Con sp y11_fromServer prog_13_method_73_code 5 none 5 0 0 [.ref o, .int a1, .int a2, .int a3, .int a4] sz K h none sz K hf := by
  refine Con.of (by decide) (Nat.le_of_ble_eq_true rfl) (fun Γ X _ => ?_)
  show Go Γ (0, 0) 0 [(0, .ref o), (1, .int a1), (2, .int a2), (3, .int a3), (4, .int a4)] [] sz K h
  unfold f11_fromServer at E
  refine g_aload_n (n := 0) X (by decide +kernel) 0 rfl ?_
  refine g_aload_n (n := 0) X (by decide +kernel) 0 rfl ?_
  refine g_getI X (by decide +kernel) fl11_384 ho ?_
  refine g_aload_n (n := 0) X (by decide +kernel) 0 rfl ?_
  refine g_iload_n (n := 2) X (by decide +kernel) 2 rfl ?_
  refine g_iconst (n := 2) (x := (2 : Int32)) X (by decide +kernel) (by decide) ?_
  obtain ⟨y2, e1, E⟩ := bp_E E
  refine g_callV1 (st := [.int (h.1 o 27), .ref o]) X [.int a2, .int (2 : Int32)] (by decide +kernel) ml11_369 ho rfl rfl (by decide) (Nat.le_of_ble_eq_true rfl) (c11_serveAt hK o a2 (2 : Int32) h ho e1) ?_
  refine g_iadd X (by decide +kernel) ?_
  obtain ⟨h3, eh3, E⟩ := lt_E E
  refine g_putI X (by decide +kernel) fp11_411 ho eh3 ?_
  refine g_aload_n (n := 0) X (by decide +kernel) 0 rfl ?_
  refine g_iload_n (n := 1) X (by decide +kernel) 1 rfl ?_
  obtain ⟨h4, eh4, E⟩ := lt_E E
  refine g_putI X (by decide +kernel) fp11_414 ho eh4 ?_
  refine g_aload_n (n := 0) X (by decide +kernel) 0 rfl ?_
  refine g_iload_n (n := 1) X (by decide +kernel) 1 rfl ?_
  obtain ⟨h5, eh5, E⟩ := lt_E E
  refine g_putI X (by decide +kernel) fp11_417 ho eh5 ?_
  refine g_aload_n (n := 0) X (by decide +kernel) 0 rfl ?_
  refine g_iconst (n := 0) (x := (0 : Int32)) X (by decide +kernel) (by decide) ?_
  obtain ⟨h6, eh6, E⟩ := lt_E E
  refine g_putI X (by decide +kernel) fp11_420 ho eh6 ?_
  refine g_aload_n (n := 0) X (by decide +kernel) 0 rfl ?_
  refine g_iload_n (n := 1) X (by decide +kernel) 1 rfl ?_
  refine g_iload_n (n := 3) X (by decide +kernel) 3 rfl ?_
  refine g_iload (n := 4) X (by decide +kernel) 4 rfl ?_
  obtain ⟨h8, e7, E⟩ := bp_E E
  refine g_callV0 (st := []) X [.int a1, .int a3, .int a4] (by decide +kernel) ml11_469 ho rfl rfl (by decide) (Nat.le_of_ble_eq_true rfl) (c11_dataTo hK o a1 a3 a4 h6 ho e7) ?_
  obtain rfl := Option.some.inj E
  exact g_return X (by decide +kernel)
-- AskedNamesModel.interest
def f11_interest_J53 (K : Ly) (n : Nat)  (x0 : Nat) (x1 : Int32) (x2 : Int32) (x3 : Int32) (x4 : Int32) (h : Hp) : Option Hp :=
    lt (sI h x0 68 ((h.1 x0 68) + (1 : Int32))) fun h14 =>
    bp (f11_firstNack K n x0 x1 x2 x3 x4 (2 : Int32) h14) fun h16 =>
    some h16
def f11_interest_J106 (K : Ly) (n : Nat)  (x0 : Nat) (x1 : Int32) (x2 : Int32) (x3 : Int32) (x7 : Int32) (h : Hp) : Option Hp :=
    bp (f11_fromStore K n x0 x1 x7 x2 x3 h) fun h31 =>
    some h31
def f11_interest_J118 (K : Ly) (n : Nat)  (x0 : Nat) (x1 : Int32) (x2 : Int32) (x3 : Int32) (x4 : Int32) (x5 : Int32) (x6 : Int32) (h : Hp) : Option Hp :=
    bp (f11_serveFor K n x0 x1 x3 h) fun y18 =>
    if y18 = (-1 : Int32) then (
    if x6 = (-1 : Int32) then (
    bp (f11_makesEntry K n x0 x1 x2 x3 x4 x5 h) fun h22 =>
    some h22)
    else (
    lt (sI h x0 67 ((h.1 x0 67) + (1 : Int32))) fun h23 =>
    bp (f11_joins K n x0 x6 x2 x5 h23) fun h25 =>
    some h25))
    else (
    bp (f11_serveFor K n x0 x1 x3 h) fun y27 =>
    bp (f11_fromServer K n x0 x1 y27 x2 x3 h) fun h29 =>
    some h29)
def f11_interest_J76 (K : Ly) (n : Nat)  (x0 : Nat) (x1 : Int32) (x2 : Int32) (x3 : Int32) (x4 : Int32) (x5 : Int32) (x6 : Int32) (x7 : Int32) (h : Hp) : Option Hp :=
    if x7 = (-1 : Int32) then (
    f11_interest_J118 K n x0 x1 x2 x3 x4 x5 x6 h)
    else (
    if x4 = 0 then (
    f11_interest_J106 K n x0 x1 x2 x3 x7 h)
    else (
    gd (inb (((6 : Int32) * x1) + x7) 36) <|
    if (h.1 (x0 + 16) (((6 : Int32) * x1) + x7).toNatClampNeg) < (h.1 x0 27) then (
    f11_interest_J118 K n x0 x1 x2 x3 x4 x5 x6 h)
    else (
    f11_interest_J106 K n x0 x1 x2 x3 x7 h)))
def f11_interest (K : Ly) (n : Nat) (o : Nat) (a1 : Int32) (a2 : Int32) (a3 : Int32) (a4 : Int32) (a5 : Int32) (h : Hp) : Option Hp :=
    bp (f11_entryOf K n o a1 a3 a4 h) fun y2 =>
    bp (f11_storedAt K n o a1 a3 h) fun y4 =>
    gd (inb a1 6) <|
    if (f11_hasL (h.2.1 (o + 12) a1.toNatClampNeg) a5) = 0 then (
    if y2 = (-1 : Int32) then (
    f11_interest_J76 K n o a1 a2 a3 a4 a5 y2 y4 h)
    else (
    gd (inb y2 384) <|
    if (f11_hasL (h.2.1 (o + 23) y2.toNatClampNeg) a5) = 0 then (
    f11_interest_J76 K n o a1 a2 a3 a4 a5 y2 y4 h)
    else (
    f11_interest_J53 K n o a1 a2 a3 a4 h)))
    else (
    f11_interest_J53 K n o a1 a2 a3 a4 h)
set_option maxHeartbeats 4000000 in
set_option maxRecDepth 20000 in
theorem w11_interest_J53 {Γ : CT} {sp : Sp} {K : Ly} {sz n : Nat} {hf : Hp}   (X : Ok Γ sp prog_13_method_74_code Rc11 8 none 7 none sz K hf) (hK : LyOk K) (x0 : Nat) (x1 : Int32) (x2 : Int32) (x3 : Int32) (x4 : Int32) (h : Hp)  (px0 : K x0 = some (.inl 11)) (E : f11_interest_J53 K n x0 x1 x2 x3 x4 h = some hf) : Go Γ (0, 0) 53 [(0, .ref x0), (1, .int x1), (2, .int x2), (3, .int x3), (4, .int x4)] [] sz K h := by
  unfold f11_interest_J53 at E
  refine g_aload_n (n := 0) X (by decide +kernel) 0 rfl ?_
  refine g_dup X (by decide +kernel) rfl ?_
  refine g_getI X (by decide +kernel) fl11_399 px0 ?_
  refine g_iconst (n := 1) (x := (1 : Int32)) X (by decide +kernel) (by decide) ?_
  refine g_iadd X (by decide +kernel) ?_
  obtain ⟨h14, eh14, E⟩ := lt_E E
  refine g_putI X (by decide +kernel) fp11_399 px0 eh14 ?_
  refine g_aload_n (n := 0) X (by decide +kernel) 0 rfl ?_
  refine g_iload_n (n := 1) X (by decide +kernel) 1 rfl ?_
  refine g_iload_n (n := 2) X (by decide +kernel) 2 rfl ?_
  refine g_iload_n (n := 3) X (by decide +kernel) 3 rfl ?_
  refine g_iload (n := 4) X (by decide +kernel) 4 rfl ?_
  refine g_iconst (n := 2) (x := (2 : Int32)) X (by decide +kernel) (by decide) ?_
  obtain ⟨h16, e15, E⟩ := bp_E E
  refine g_callV0 (st := []) X [.int x1, .int x2, .int x3, .int x4, .int (2 : Int32)] (by decide +kernel) ml11_462 px0 rfl rfl (by decide) (Nat.le_of_ble_eq_true rfl) (c11_firstNack hK x0 x1 x2 x3 x4 (2 : Int32) h14 px0 e15) ?_
  refine g_goto (off := 110) (tgt := 183) X (by decide +kernel) (by decide) ?_
  obtain rfl := Option.some.inj E
  exact g_return X (by decide +kernel)
set_option maxHeartbeats 4000000 in
set_option maxRecDepth 20000 in
theorem w11_interest_J106 {Γ : CT} {sp : Sp} {K : Ly} {sz n : Nat} {hf : Hp}   (X : Ok Γ sp prog_13_method_74_code Rc11 8 none 7 none sz K hf) (hK : LyOk K) (x0 : Nat) (x1 : Int32) (x2 : Int32) (x3 : Int32) (x7 : Int32) (h : Hp)  (px0 : K x0 = some (.inl 11)) (E : f11_interest_J106 K n x0 x1 x2 x3 x7 h = some hf) : Go Γ (0, 0) 106 [(0, .ref x0), (1, .int x1), (2, .int x2), (3, .int x3), (7, .int x7)] [] sz K h := by
  unfold f11_interest_J106 at E
  refine g_aload_n (n := 0) X (by decide +kernel) 0 rfl ?_
  refine g_iload_n (n := 1) X (by decide +kernel) 1 rfl ?_
  refine g_iload (n := 7) X (by decide +kernel) 4 rfl ?_
  refine g_iload_n (n := 2) X (by decide +kernel) 2 rfl ?_
  refine g_iload_n (n := 3) X (by decide +kernel) 3 rfl ?_
  obtain ⟨h31, e30, E⟩ := bp_E E
  refine g_callV0 (st := []) X [.int x1, .int x7, .int x2, .int x3] (by decide +kernel) ml11_478 px0 rfl rfl (by decide) (Nat.le_of_ble_eq_true rfl) (c11_fromStore hK x0 x1 x7 x2 x3 h px0 e30) ?_
  refine g_goto (off := 68) (tgt := 183) X (by decide +kernel) (by decide) ?_
  obtain rfl := Option.some.inj E
  exact g_return X (by decide +kernel)
set_option maxHeartbeats 4000000 in
set_option maxRecDepth 20000 in
theorem w11_interest_J118 {Γ : CT} {sp : Sp} {K : Ly} {sz n : Nat} {hf : Hp}   (X : Ok Γ sp prog_13_method_74_code Rc11 8 none 7 none sz K hf) (hK : LyOk K) (x0 : Nat) (x1 : Int32) (x2 : Int32) (x3 : Int32) (x4 : Int32) (x5 : Int32) (x6 : Int32) (h : Hp)  (px0 : K x0 = some (.inl 11)) (E : f11_interest_J118 K n x0 x1 x2 x3 x4 x5 x6 h = some hf) : Go Γ (0, 0) 118 [(0, .ref x0), (1, .int x1), (2, .int x2), (3, .int x3), (4, .int x4), (5, .int x5), (6, .int x6)] [] sz K h := by
  unfold f11_interest_J118 at E
  refine g_aload_n (n := 0) X (by decide +kernel) 0 rfl ?_
  refine g_iload_n (n := 1) X (by decide +kernel) 1 rfl ?_
  refine g_iload_n (n := 3) X (by decide +kernel) 3 rfl ?_
  obtain ⟨y18, e17, E⟩ := bp_E E
  refine g_callV1 (st := []) X [.int x1, .int x3] (by decide +kernel) ml11_481 px0 rfl rfl (by decide) (Nat.le_of_ble_eq_true rfl) (c11_serveFor hK x0 x1 x3 h px0 e17) ?_
  refine g_iconst (n := -1) (x := (-1 : Int32)) X (by decide +kernel) (by decide) ?_
  rcases it_E E with ⟨c19, E⟩ | ⟨c19, E⟩
  · refine g_icmp_eq_t (off := 19) (tgt := 144) X (by decide +kernel) (by decide) c19 ?_
    refine g_iload (n := 6) X (by decide +kernel) 6 rfl ?_
    refine g_iconst (n := -1) (x := (-1 : Int32)) X (by decide +kernel) (by decide) ?_
    rcases it_E E with ⟨c20, E⟩ | ⟨c20, E⟩
    · refine g_icmp_eq_t (off := 25) (tgt := 172) X (by decide +kernel) (by decide) c20 ?_
      refine g_aload_n (n := 0) X (by decide +kernel) 0 rfl ?_
      refine g_iload_n (n := 1) X (by decide +kernel) 1 rfl ?_
      refine g_iload_n (n := 2) X (by decide +kernel) 2 rfl ?_
      refine g_iload_n (n := 3) X (by decide +kernel) 3 rfl ?_
      refine g_iload (n := 4) X (by decide +kernel) 4 rfl ?_
      refine g_iload (n := 5) X (by decide +kernel) 5 rfl ?_
      obtain ⟨h22, e21, E⟩ := bp_E E
      refine g_callV0 (st := []) X [.int x1, .int x2, .int x3, .int x4, .int x5] (by decide +kernel) ml11_487 px0 rfl rfl (by decide) (Nat.le_of_ble_eq_true rfl) (c11_makesEntry hK x0 x1 x2 x3 x4 x5 h px0 e21) ?_
      obtain rfl := Option.some.inj E
      exact g_return X (by decide +kernel)
    · refine g_icmp_eq_f (off := 25) (tgt := 172) X (by decide +kernel) (by decide) c20 ?_
      refine g_aload_n (n := 0) X (by decide +kernel) 0 rfl ?_
      refine g_dup X (by decide +kernel) rfl ?_
      refine g_getI X (by decide +kernel) fl11_396 px0 ?_
      refine g_iconst (n := 1) (x := (1 : Int32)) X (by decide +kernel) (by decide) ?_
      refine g_iadd X (by decide +kernel) ?_
      obtain ⟨h23, eh23, E⟩ := lt_E E
      refine g_putI X (by decide +kernel) fp11_396 px0 eh23 ?_
      refine g_aload_n (n := 0) X (by decide +kernel) 0 rfl ?_
      refine g_iload (n := 6) X (by decide +kernel) 6 rfl ?_
      refine g_iload_n (n := 2) X (by decide +kernel) 2 rfl ?_
      refine g_iload (n := 5) X (by decide +kernel) 5 rfl ?_
      obtain ⟨h25, e24, E⟩ := bp_E E
      refine g_callV0 (st := []) X [.int x6, .int x2, .int x5] (by decide +kernel) ml11_453 px0 rfl rfl (by decide) (Nat.le_of_ble_eq_true rfl) (c11_joins hK x0 x6 x2 x5 h23 px0 e24) ?_
      refine g_goto (off := 14) (tgt := 183) X (by decide +kernel) (by decide) ?_
      obtain rfl := Option.some.inj E
      exact g_return X (by decide +kernel)
  · refine g_icmp_eq_f (off := 19) (tgt := 144) X (by decide +kernel) (by decide) c19 ?_
    refine g_aload_n (n := 0) X (by decide +kernel) 0 rfl ?_
    refine g_iload_n (n := 1) X (by decide +kernel) 1 rfl ?_
    refine g_aload_n (n := 0) X (by decide +kernel) 0 rfl ?_
    refine g_iload_n (n := 1) X (by decide +kernel) 1 rfl ?_
    refine g_iload_n (n := 3) X (by decide +kernel) 3 rfl ?_
    obtain ⟨y27, e26, E⟩ := bp_E E
    refine g_callV1 (st := [.int x1, .ref x0]) X [.int x1, .int x3] (by decide +kernel) ml11_481 px0 rfl rfl (by decide) (Nat.le_of_ble_eq_true rfl) (c11_serveFor hK x0 x1 x3 h px0 e26) ?_
    refine g_iload_n (n := 2) X (by decide +kernel) 2 rfl ?_
    refine g_iload_n (n := 3) X (by decide +kernel) 3 rfl ?_
    obtain ⟨h29, e28, E⟩ := bp_E E
    refine g_callV0 (st := []) X [.int x1, .int y27, .int x2, .int x3] (by decide +kernel) ml11_484 px0 rfl rfl (by decide) (Nat.le_of_ble_eq_true rfl) (c11_fromServer hK x0 x1 y27 x2 x3 h px0 e28) ?_
    refine g_goto (off := 42) (tgt := 183) X (by decide +kernel) (by decide) ?_
    obtain rfl := Option.some.inj E
    exact g_return X (by decide +kernel)
set_option maxHeartbeats 4000000 in
set_option maxRecDepth 20000 in
theorem w11_interest_J76 {Γ : CT} {sp : Sp} {K : Ly} {sz n : Nat} {hf : Hp}   (X : Ok Γ sp prog_13_method_74_code Rc11 8 none 7 none sz K hf) (hK : LyOk K) (x0 : Nat) (x1 : Int32) (x2 : Int32) (x3 : Int32) (x4 : Int32) (x5 : Int32) (x6 : Int32) (x7 : Int32) (h : Hp)  (px0 : K x0 = some (.inl 11)) (E : f11_interest_J76 K n x0 x1 x2 x3 x4 x5 x6 x7 h = some hf) : Go Γ (0, 0) 76 [(0, .ref x0), (1, .int x1), (2, .int x2), (3, .int x3), (4, .int x4), (5, .int x5), (6, .int x6), (7, .int x7)] [] sz K h := by
  unfold f11_interest_J76 at E
  refine g_iload (n := 7) X (by decide +kernel) 7 rfl ?_
  refine g_iconst (n := -1) (x := (-1 : Int32)) X (by decide +kernel) (by decide) ?_
  rcases it_E E with ⟨c10, E⟩ | ⟨c10, E⟩
  · refine g_icmp_eq_t (off := 39) (tgt := 118) X (by decide +kernel) (by decide) c10 ?_
    refine g_sub [0, 1, 2, 3, 4, 5, 6] rfl ?_
    exact w11_interest_J118 X hK x0 x1 x2 x3 x4 x5 x6 h px0 E
  · refine g_icmp_eq_f (off := 39) (tgt := 118) X (by decide +kernel) (by decide) c10 ?_
    refine g_iload (n := 4) X (by decide +kernel) 4 rfl ?_
    rcases it_E E with ⟨c11, E⟩ | ⟨c11, E⟩
    · refine g_if_eq_t (off := 22) (tgt := 106) X (by decide +kernel) (by decide) c11 ?_
      refine g_sub [0, 1, 2, 3, 7] rfl ?_
      exact w11_interest_J106 X hK x0 x1 x2 x3 x7 h px0 E
    · refine g_if_eq_f (off := 22) (tgt := 106) X (by decide +kernel) (by decide) c11 ?_
      refine g_aload_n (n := 0) X (by decide +kernel) 0 rfl ?_
      refine g_getS X (by decide +kernel) fl11_57 px0 ?_
      refine g_bipush (n := 6) (x := (6 : Int32)) X (by decide +kernel) (by decide) ?_
      refine g_iload_n (n := 1) X (by decide +kernel) 1 rfl ?_
      refine g_imul X (by decide +kernel) ?_
      refine g_iload (n := 7) X (by decide +kernel) 7 rfl ?_
      refine g_iadd X (by decide +kernel) ?_
      obtain ⟨c12, E⟩ := gd_E E
      refine g_iald X (by decide +kernel) (ly hK px0 fl11_57 rfl) c12 ?_
      refine g_aload_n (n := 0) X (by decide +kernel) 0 rfl ?_
      refine g_getI X (by decide +kernel) fl11_384 px0 ?_
      rcases it_E E with ⟨c13, E⟩ | ⟨c13, E⟩
      · refine g_icmp_lt_t (off := 15) (tgt := 118) X (by decide +kernel) (by decide) c13 ?_
        refine g_sub [0, 1, 2, 3, 4, 5, 6] rfl ?_
        exact w11_interest_J118 X hK x0 x1 x2 x3 x4 x5 x6 h px0 E
      · refine g_icmp_lt_f (off := 15) (tgt := 118) X (by decide +kernel) (by decide) c13 ?_
        refine g_sub [0, 1, 2, 3, 7] rfl ?_
        exact w11_interest_J106 X hK x0 x1 x2 x3 x7 h px0 E
set_option maxHeartbeats 4000000 in
set_option maxRecDepth 20000 in
theorem c11_interest {sp : Sp} {K : Ly} {sz n : Nat} (hK : LyOk K) (o : Nat) (a1 : Int32) (a2 : Int32) (a3 : Int32) (a4 : Int32) (a5 : Int32) (h : Hp) (ho : K o = some (.inl 11)) {hf : Hp} (E : f11_interest K n o a1 a2 a3 a4 a5 h = some hf) : Con sp y11_interest prog_13_method_74_code 8 none 7 0 0 [.ref o, .int a1, .int a2, .int a3, .int a4, .int a5] sz K h none sz K hf := by
  refine Con.of (by decide) (Nat.le_of_ble_eq_true rfl) (fun Γ X _ => ?_)
  show Go Γ (0, 0) 0 [(0, .ref o), (1, .int a1), (2, .int a2), (3, .int a3), (4, .int a4), (5, .int a5)] [] sz K h
  unfold f11_interest at E
  refine g_aload_n (n := 0) X (by decide +kernel) 0 rfl ?_
  refine g_iload_n (n := 1) X (by decide +kernel) 1 rfl ?_
  refine g_iload_n (n := 3) X (by decide +kernel) 3 rfl ?_
  refine g_iload (n := 4) X (by decide +kernel) 4 rfl ?_
  obtain ⟨y2, e1, E⟩ := bp_E E
  refine g_callV1 (st := []) X [.int a1, .int a3, .int a4] (by decide +kernel) ml11_472 ho rfl rfl (by decide) (Nat.le_of_ble_eq_true rfl) (c11_entryOf hK o a1 a3 a4 h ho e1) ?_
  refine s_istore (i := 6) X (by decide +kernel) (by decide) rfl (ls_next (by decide) (Or.inr rfl) (ls_next (by decide) (Or.inr rfl) (ls_next (by decide) (Or.inr rfl) (ls_next (by decide) (Or.inr rfl) (ls_next (by decide) (Or.inr rfl) (ls_next (by decide) (Or.inr rfl) (ls_ins ls_end))))))) ?_
  refine g_aload_n (n := 0) X (by decide +kernel) 0 rfl ?_
  refine g_iload_n (n := 1) X (by decide +kernel) 1 rfl ?_
  refine g_iload_n (n := 3) X (by decide +kernel) 3 rfl ?_
  obtain ⟨y4, e3, E⟩ := bp_E E
  refine g_callV1 (st := []) X [.int a1, .int a3] (by decide +kernel) ml11_436 ho rfl rfl (by decide) (Nat.le_of_ble_eq_true rfl) (c11_storedAt hK o a1 a3 h ho e3) ?_
  refine s_istore (i := 7) X (by decide +kernel) (by decide) rfl (ls_next (by decide) (Or.inr rfl) (ls_next (by decide) (Or.inr rfl) (ls_next (by decide) (Or.inr rfl) (ls_next (by decide) (Or.inr rfl) (ls_next (by decide) (Or.inr rfl) (ls_next (by decide) (Or.inr rfl) (ls_next (by decide) (Or.inr rfl) (ls_ins ls_end)))))))) ?_
  refine g_aload_n (n := 0) X (by decide +kernel) 0 rfl ?_
  refine g_getS X (by decide +kernel) fl11_44 ho ?_
  refine g_iload_n (n := 1) X (by decide +kernel) 1 rfl ?_
  obtain ⟨c5, E⟩ := gd_E E
  refine g_lald X (by decide +kernel) (ly hK ho fl11_44 rfl) c5 ?_
  refine g_iload (n := 5) X (by decide +kernel) 5 rfl ?_
  refine g_callS1 (st := []) X [.long (h.2.1 (o + 12) a1.toNatClampNeg), .int a5] (by decide +kernel) ml11_475 (by decide) (Nat.le_of_ble_eq_true rfl) (c11_hasL hK (h.2.1 (o + 12) a1.toNatClampNeg) a5 h ) ?_
  rcases it_E E with ⟨c6, E⟩ | ⟨c6, E⟩
  · refine g_if_ne_f (off := 24) (tgt := 53) X (by decide +kernel) (by decide) (fun z => z c6) ?_
    refine g_iload (n := 6) X (by decide +kernel) 6 rfl ?_
    refine g_iconst (n := -1) (x := (-1 : Int32)) X (by decide +kernel) (by decide) ?_
    rcases it_E E with ⟨c7, E⟩ | ⟨c7, E⟩
    · refine g_icmp_eq_t (off := 41) (tgt := 76) X (by decide +kernel) (by decide) c7 ?_
      exact w11_interest_J76 X hK o a1 a2 a3 a4 a5 y2 y4 h ho E
    · refine g_icmp_eq_f (off := 41) (tgt := 76) X (by decide +kernel) (by decide) c7 ?_
      refine g_aload_n (n := 0) X (by decide +kernel) 0 rfl ?_
      refine g_getS X (by decide +kernel) fl11_78 ho ?_
      refine g_iload (n := 6) X (by decide +kernel) 6 rfl ?_
      obtain ⟨c8, E⟩ := gd_E E
      refine g_lald X (by decide +kernel) (ly hK ho fl11_78 rfl) c8 ?_
      refine g_iload (n := 5) X (by decide +kernel) 5 rfl ?_
      refine g_callS1 (st := []) X [.long (h.2.1 (o + 23) y2.toNatClampNeg), .int a5] (by decide +kernel) ml11_475 (by decide) (Nat.le_of_ble_eq_true rfl) (c11_hasL hK (h.2.1 (o + 23) y2.toNatClampNeg) a5 h ) ?_
      rcases it_E E with ⟨c9, E⟩ | ⟨c9, E⟩
      · refine g_if_eq_t (off := 26) (tgt := 76) X (by decide +kernel) (by decide) c9 ?_
        exact w11_interest_J76 X hK o a1 a2 a3 a4 a5 y2 y4 h ho E
      · refine g_if_eq_f (off := 26) (tgt := 76) X (by decide +kernel) (by decide) c9 ?_
        refine g_sub [0, 1, 2, 3, 4] rfl ?_
        exact w11_interest_J53 X hK o a1 a2 a3 a4 h ho E
  · refine g_if_ne_t (off := 24) (tgt := 53) X (by decide +kernel) (by decide) c6 ?_
    refine g_sub [0, 1, 2, 3, 4] rfl ?_
    exact w11_interest_J53 X hK o a1 a2 a3 a4 h ho E
-- AskedNamesModel.answers
def f11_answers_L43 (K : Ly) (n : Nat) (x0 : Nat) (x1 : Int32) (x2 : Int32)   : Nat → Int32 → Hp → Option Hp
  | 0, _, _ => none
  | k + 1, x3, h =>
    if (64 : Int32) ≤ x3 then (
    gd (inb x1 6) <|
    gd (inb x2 384) <|
    gd (inb x1 6) <|
    lt (sL h (x0 + 12) x1.toNatClampNeg ((h.2.1 (x0 + 12) x1.toNatClampNeg) ||| (h.2.1 (x0 + 23) x2.toNatClampNeg))) fun h13 =>
    bp (f11_removes K n x0 x1 x2 h13) fun h15 =>
    some h15)
    else (
    gd (inb x2 384) <|
    if (f11_hasL (h.2.1 (x0 + 22) x2.toNatClampNeg) x3) = 0 then (
    lt (x3 + (1 : Int32)) fun x3_18 =>
    f11_answers_L43 K n x0 x1 x2  k x3_18 h)
    else (
    bp (f11_gets K n x0 x3 h) fun h20 =>
    lt (x3 + (1 : Int32)) fun x3_21 =>
    f11_answers_L43 K n x0 x1 x2  k x3_21 h20))
def f11_answers_L2 (K : Ly) (n : Nat) (x0 : Nat) (x1 : Int32) (x2 : Int32)   : Nat → Int32 → Hp → Option Hp
  | 0, _, _ => none
  | k + 1, x3, h =>
    if (h.1 x0 23) ≤ x3 then (
    f11_answers_L43 K n x0 x1 x2 n (0 : Int32) h)
    else (
    gd (inb x2 384) <|
    if (f11_has (h.1 (x0 + 21) x2.toNatClampNeg) x3) = 0 then (
    lt (x3 + (1 : Int32)) fun x3_4 =>
    f11_answers_L2 K n x0 x1 x2  k x3_4 h)
    else (
    gd (inb x2 384) <|
    bp (f11_dataTo K n x0 x1 x3 (h.1 (x0 + 19) x2.toNatClampNeg) h) fun h7 =>
    lt (x3 + (1 : Int32)) fun x3_8 =>
    f11_answers_L2 K n x0 x1 x2  k x3_8 h7))
def f11_answers (K : Ly) (n : Nat) (o : Nat) (a1 : Int32) (a2 : Int32) (h : Hp) : Option Hp :=
    f11_answers_L2 K n o a1 a2 n (0 : Int32) h
set_option maxHeartbeats 4000000 in
set_option maxRecDepth 20000 in
theorem w11_answers_L43 {Γ : CT} {sp : Sp} {K : Ly} {sz n : Nat} {hf : Hp}  (X : Ok Γ sp prog_13_method_75_code Rc11 4 none 5 none sz K hf) (hK : LyOk K) (x0 : Nat) (x1 : Int32) (x2 : Int32)  (px0 : K x0 = some (.inl 11))  : ∀ (k : Nat) (x3 : Int32) (h : Hp), f11_answers_L43 K n x0 x1 x2  k x3 h = some hf → Go Γ (0, 0) 43 [(0, .ref x0), (1, .int x1), (2, .int x2), (3, .int x3)] [] sz K h := by
  intro k
  induction k with
  | zero => intro x3 h E; cases E
  | succ k ih =>
    intro x3 h E
    unfold f11_answers_L43 at E
    refine g_iload_n (n := 3) X (by decide +kernel) 3 rfl ?_
    refine g_bipush (n := 64) (x := (64 : Int32)) X (by decide +kernel) (by decide) ?_
    rcases it_E E with ⟨c9, E⟩ | ⟨c9, E⟩
    · refine g_icmp_ge_t (off := 27) (tgt := 73) X (by decide +kernel) (by decide) c9 ?_
      refine g_aload_n (n := 0) X (by decide +kernel) 0 rfl ?_
      refine g_getS X (by decide +kernel) fl11_44 px0 ?_
      refine g_iload_n (n := 1) X (by decide +kernel) 1 rfl ?_
      refine g_dup2 X (by decide +kernel) rfl rfl ?_
      obtain ⟨c10, E⟩ := gd_E E
      refine g_lald X (by decide +kernel) (ly hK px0 fl11_44 rfl) c10 ?_
      refine g_aload_n (n := 0) X (by decide +kernel) 0 rfl ?_
      refine g_getS X (by decide +kernel) fl11_78 px0 ?_
      refine g_iload_n (n := 2) X (by decide +kernel) 2 rfl ?_
      obtain ⟨c11, E⟩ := gd_E E
      refine g_lald X (by decide +kernel) (ly hK px0 fl11_78 rfl) c11 ?_
      refine g_lor X (by decide +kernel) ?_
      obtain ⟨c12, E⟩ := gd_E E
      obtain ⟨h13, eh13, E⟩ := lt_E E
      refine g_last X (by decide +kernel) (ly hK px0 fl11_44 rfl) c12 eh13 ?_
      refine g_aload_n (n := 0) X (by decide +kernel) 0 rfl ?_
      refine g_iload_n (n := 1) X (by decide +kernel) 1 rfl ?_
      refine g_iload_n (n := 2) X (by decide +kernel) 2 rfl ?_
      obtain ⟨h15, e14, E⟩ := bp_E E
      refine g_callV0 (st := []) X [.int x1, .int x2] (by decide +kernel) ml11_459 px0 rfl rfl (by decide) (Nat.le_of_ble_eq_true rfl) (c11_removes hK x0 x1 x2 h13 px0 e14) ?_
      obtain rfl := Option.some.inj E
      exact g_return X (by decide +kernel)
    · refine g_icmp_ge_f (off := 27) (tgt := 73) X (by decide +kernel) (by decide) c9 ?_
      refine g_aload_n (n := 0) X (by decide +kernel) 0 rfl ?_
      refine g_getS X (by decide +kernel) fl11_75 px0 ?_
      refine g_iload_n (n := 2) X (by decide +kernel) 2 rfl ?_
      obtain ⟨c16, E⟩ := gd_E E
      refine g_lald X (by decide +kernel) (ly hK px0 fl11_75 rfl) c16 ?_
      refine g_iload_n (n := 3) X (by decide +kernel) 3 rfl ?_
      refine g_callS1 (st := []) X [.long (h.2.1 (x0 + 22) x2.toNatClampNeg), .int x3] (by decide +kernel) ml11_475 (by decide) (Nat.le_of_ble_eq_true rfl) (c11_hasL hK (h.2.1 (x0 + 22) x2.toNatClampNeg) x3 h ) ?_
      rcases it_E E with ⟨c17, E⟩ | ⟨c17, E⟩
      · refine g_if_eq_t (off := 8) (tgt := 67) X (by decide +kernel) (by decide) c17 ?_
        obtain ⟨x3_18, ex3_18, E⟩ := lt_E E
        refine s_iinc (i := 3) (n := 1) (y := x3_18) X (by decide +kernel) 3 rfl (by decide) ex3_18 (ls_next (by decide) (Or.inr rfl) (ls_next (by decide) (Or.inr rfl) (ls_next (by decide) (Or.inr rfl) (ls_here ls_end)))) ?_
        refine g_goto (off := -27) (tgt := 43) X (by decide +kernel) (by decide) ?_
        exact ih x3_18 h  E
      · refine g_if_eq_f (off := 8) (tgt := 67) X (by decide +kernel) (by decide) c17 ?_
        refine g_aload_n (n := 0) X (by decide +kernel) 0 rfl ?_
        refine g_iload_n (n := 3) X (by decide +kernel) 3 rfl ?_
        obtain ⟨h20, e19, E⟩ := bp_E E
        refine g_callV0 (st := []) X [.int x3] (by decide +kernel) ml11_423 px0 rfl rfl (by decide) (Nat.le_of_ble_eq_true rfl) (c11_gets hK x0 x3 h px0 e19) ?_
        obtain ⟨x3_21, ex3_21, E⟩ := lt_E E
        refine s_iinc (i := 3) (n := 1) (y := x3_21) X (by decide +kernel) 3 rfl (by decide) ex3_21 (ls_next (by decide) (Or.inr rfl) (ls_next (by decide) (Or.inr rfl) (ls_next (by decide) (Or.inr rfl) (ls_here ls_end)))) ?_
        refine g_goto (off := -27) (tgt := 43) X (by decide +kernel) (by decide) ?_
        exact ih x3_21 h20  E
set_option maxHeartbeats 4000000 in
set_option maxRecDepth 20000 in
theorem w11_answers_L2 {Γ : CT} {sp : Sp} {K : Ly} {sz n : Nat} {hf : Hp}  (X : Ok Γ sp prog_13_method_75_code Rc11 4 none 5 none sz K hf) (hK : LyOk K) (x0 : Nat) (x1 : Int32) (x2 : Int32)  (px0 : K x0 = some (.inl 11))  : ∀ (k : Nat) (x3 : Int32) (h : Hp), f11_answers_L2 K n x0 x1 x2  k x3 h = some hf → Go Γ (0, 0) 2 [(0, .ref x0), (1, .int x1), (2, .int x2), (3, .int x3)] [] sz K h := by
  intro k
  induction k with
  | zero => intro x3 h E; cases E
  | succ k ih =>
    intro x3 h E
    unfold f11_answers_L2 at E
    refine g_iload_n (n := 3) X (by decide +kernel) 3 rfl ?_
    refine g_aload_n (n := 0) X (by decide +kernel) 0 rfl ?_
    refine g_getI X (by decide +kernel) fl11_339 px0 ?_
    rcases it_E E with ⟨c1, E⟩ | ⟨c1, E⟩
    · refine g_icmp_ge_t (off := 34) (tgt := 41) X (by decide +kernel) (by decide) c1 ?_
      refine g_iconst (n := 0) (x := (0 : Int32)) X (by decide +kernel) (by decide) ?_
      refine s_istore_n (n := 3) (i := 3) X (by decide +kernel) rfl (by decide) rfl (ls_next (by decide) (Or.inr rfl) (ls_next (by decide) (Or.inr rfl) (ls_next (by decide) (Or.inr rfl) (ls_here ls_end)))) ?_
      exact w11_answers_L43 X hK x0 x1 x2 px0 n (0 : Int32) h E
    · refine g_icmp_ge_f (off := 34) (tgt := 41) X (by decide +kernel) (by decide) c1 ?_
      refine g_aload_n (n := 0) X (by decide +kernel) 0 rfl ?_
      refine g_getS X (by decide +kernel) fl11_72 px0 ?_
      refine g_iload_n (n := 2) X (by decide +kernel) 2 rfl ?_
      obtain ⟨c2, E⟩ := gd_E E
      refine g_iald X (by decide +kernel) (ly hK px0 fl11_72 rfl) c2 ?_
      refine g_iload_n (n := 3) X (by decide +kernel) 3 rfl ?_
      refine g_callS1 (st := []) X [.int (h.1 (x0 + 21) x2.toNatClampNeg), .int x3] (by decide +kernel) ml11_173 (by decide) (Nat.le_of_ble_eq_true rfl) (c11_has hK (h.1 (x0 + 21) x2.toNatClampNeg) x3 h ) ?_
      rcases it_E E with ⟨c3, E⟩ | ⟨c3, E⟩
      · refine g_if_eq_t (off := 15) (tgt := 35) X (by decide +kernel) (by decide) c3 ?_
        obtain ⟨x3_4, ex3_4, E⟩ := lt_E E
        refine s_iinc (i := 3) (n := 1) (y := x3_4) X (by decide +kernel) 3 rfl (by decide) ex3_4 (ls_next (by decide) (Or.inr rfl) (ls_next (by decide) (Or.inr rfl) (ls_next (by decide) (Or.inr rfl) (ls_here ls_end)))) ?_
        refine g_goto (off := -36) (tgt := 2) X (by decide +kernel) (by decide) ?_
        exact ih x3_4 h  E
      · refine g_if_eq_f (off := 15) (tgt := 35) X (by decide +kernel) (by decide) c3 ?_
        refine g_aload_n (n := 0) X (by decide +kernel) 0 rfl ?_
        refine g_iload_n (n := 1) X (by decide +kernel) 1 rfl ?_
        refine g_iload_n (n := 3) X (by decide +kernel) 3 rfl ?_
        refine g_aload_n (n := 0) X (by decide +kernel) 0 rfl ?_
        refine g_getS X (by decide +kernel) fl11_66 px0 ?_
        refine g_iload_n (n := 2) X (by decide +kernel) 2 rfl ?_
        obtain ⟨c5, E⟩ := gd_E E
        refine g_iald X (by decide +kernel) (ly hK px0 fl11_66 rfl) c5 ?_
        obtain ⟨h7, e6, E⟩ := bp_E E
        refine g_callV0 (st := []) X [.int x1, .int x3, .int (h.1 (x0 + 19) x2.toNatClampNeg)] (by decide +kernel) ml11_469 px0 rfl rfl (by decide) (Nat.le_of_ble_eq_true rfl) (c11_dataTo hK x0 x1 x3 (h.1 (x0 + 19) x2.toNatClampNeg) h px0 e6) ?_
        obtain ⟨x3_8, ex3_8, E⟩ := lt_E E
        refine s_iinc (i := 3) (n := 1) (y := x3_8) X (by decide +kernel) 3 rfl (by decide) ex3_8 (ls_next (by decide) (Or.inr rfl) (ls_next (by decide) (Or.inr rfl) (ls_next (by decide) (Or.inr rfl) (ls_here ls_end)))) ?_
        refine g_goto (off := -36) (tgt := 2) X (by decide +kernel) (by decide) ?_
        exact ih x3_8 h7  E
set_option maxHeartbeats 4000000 in
set_option maxRecDepth 20000 in
theorem c11_answers {sp : Sp} {K : Ly} {sz n : Nat} (hK : LyOk K) (o : Nat) (a1 : Int32) (a2 : Int32) (h : Hp) (ho : K o = some (.inl 11)) {hf : Hp} (E : f11_answers K n o a1 a2 h = some hf) : Con sp y11_answers prog_13_method_75_code 4 none 5 0 0 [.ref o, .int a1, .int a2] sz K h none sz K hf := by
  refine Con.of (by decide) (Nat.le_of_ble_eq_true rfl) (fun Γ X _ => ?_)
  show Go Γ (0, 0) 0 [(0, .ref o), (1, .int a1), (2, .int a2)] [] sz K h
  unfold f11_answers at E
  refine g_iconst (n := 0) (x := (0 : Int32)) X (by decide +kernel) (by decide) ?_
  refine s_istore_n (n := 3) (i := 3) X (by decide +kernel) rfl (by decide) rfl (ls_next (by decide) (Or.inr rfl) (ls_next (by decide) (Or.inr rfl) (ls_next (by decide) (Or.inr rfl) (ls_ins ls_end)))) ?_
  exact w11_answers_L2 X hK o a1 a2 ho n (0 : Int32) h E
-- AskedNamesModel.firstFor
def f11_firstFor_J49 (K : Ly) (n : Nat)  (x1 : Int32) (x4 : Int32) (h : Hp) : Option (Int32) :=
    some (((64 : Int32) * x1) + x4)
def f11_firstFor_L3 (K : Ly) (n : Nat) (x0 : Nat) (x1 : Int32) (x2 : Int32) (x3 : Int32) (h : Hp)  : Nat → Int32 → Option (Int32)
  | 0, _ => none
  | k + 1, x4 =>
    gd (inb x1 6) <|
    if (h.1 (x0 + 18) x1.toNatClampNeg) ≤ x4 then (
    some (-1 : Int32))
    else (
    gd (inb (((64 : Int32) * x1) + x4) 384) <|
    if (h.1 (x0 + 19) (((64 : Int32) * x1) + x4).toNatClampNeg) = x2 then (
    gd (inb (((64 : Int32) * x1) + x4) 384) <|
    if (h.1 (x0 + 20) (((64 : Int32) * x1) + x4).toNatClampNeg) = 0 then (
    f11_firstFor_J49 K n x1 x4 h)
    else (
    if x3 = 0 then (
    lt (x4 + (1 : Int32)) fun x4_8 =>
    f11_firstFor_L3 K n x0 x1 x2 x3 h  k x4_8)
    else (
    f11_firstFor_J49 K n x1 x4 h)))
    else (
    lt (x4 + (1 : Int32)) fun x4_9 =>
    f11_firstFor_L3 K n x0 x1 x2 x3 h  k x4_9))
def f11_firstFor (K : Ly) (n : Nat) (o : Nat) (a1 : Int32) (a2 : Int32) (a3 : Int32) (h : Hp) : Option (Int32) :=
    f11_firstFor_L3 K n o a1 a2 a3 h n (0 : Int32)
set_option maxHeartbeats 4000000 in
set_option maxRecDepth 20000 in
theorem w11_firstFor_J49 {Γ : CT} {sp : Sp} {K : Ly} {sz n : Nat} {v : Int32} {h : Hp}   (X : Ok Γ sp prog_13_method_76_code Rc11 5 (some (.int)) 1 (some (.int v)) sz K h) (hK : LyOk K) (x1 : Int32) (x4 : Int32)    (E : f11_firstFor_J49 K n x1 x4 h = some v) : Go Γ (0, 0) 49 [(1, .int x1), (4, .int x4)] [] sz K h := by
  unfold f11_firstFor_J49 at E
  refine g_bipush (n := 64) (x := (64 : Int32)) X (by decide +kernel) (by decide) ?_
  refine g_iload_n (n := 1) X (by decide +kernel) 0 rfl ?_
  refine g_imul X (by decide +kernel) ?_
  refine g_iload (n := 4) X (by decide +kernel) 1 rfl ?_
  refine g_iadd X (by decide +kernel) ?_
  obtain rfl := Option.some.inj E
  exact g_ireturn X (by decide +kernel)
set_option maxHeartbeats 4000000 in
set_option maxRecDepth 20000 in
theorem w11_firstFor_L3 {Γ : CT} {sp : Sp} {K : Ly} {sz n : Nat} {v : Int32} {h : Hp}  (X : Ok Γ sp prog_13_method_76_code Rc11 5 (some (.int)) 1 (some (.int v)) sz K h) (hK : LyOk K) (x0 : Nat) (x1 : Int32) (x2 : Int32) (x3 : Int32)  (px0 : K x0 = some (.inl 11))  : ∀ (k : Nat) (x4 : Int32), f11_firstFor_L3 K n x0 x1 x2 x3 h  k x4 = some v → Go Γ (0, 0) 3 [(0, .ref x0), (1, .int x1), (2, .int x2), (3, .int x3), (4, .int x4)] [] sz K h := by
  intro k
  induction k with
  | zero => intro x4 E; cases E
  | succ k ih =>
    intro x4 E
    unfold f11_firstFor_L3 at E
    refine g_iload (n := 4) X (by decide +kernel) 4 rfl ?_
    refine g_aload_n (n := 0) X (by decide +kernel) 0 rfl ?_
    refine g_getS X (by decide +kernel) fl11_63 px0 ?_
    refine g_iload_n (n := 1) X (by decide +kernel) 1 rfl ?_
    obtain ⟨c1, E⟩ := gd_E E
    refine g_iald X (by decide +kernel) (ly hK px0 fl11_63 rfl) c1 ?_
    rcases it_E E with ⟨c2, E⟩ | ⟨c2, E⟩
    · refine g_icmp_ge_t (off := 52) (tgt := 63) X (by decide +kernel) (by decide) c2 ?_
      refine g_iconst (n := -1) (x := (-1 : Int32)) X (by decide +kernel) (by decide) ?_
      obtain rfl := Option.some.inj E
      exact g_ireturn X (by decide +kernel)
    · refine g_icmp_ge_f (off := 52) (tgt := 63) X (by decide +kernel) (by decide) c2 ?_
      refine g_aload_n (n := 0) X (by decide +kernel) 0 rfl ?_
      refine g_getS X (by decide +kernel) fl11_66 px0 ?_
      refine g_bipush (n := 64) (x := (64 : Int32)) X (by decide +kernel) (by decide) ?_
      refine g_iload_n (n := 1) X (by decide +kernel) 1 rfl ?_
      refine g_imul X (by decide +kernel) ?_
      refine g_iload (n := 4) X (by decide +kernel) 4 rfl ?_
      refine g_iadd X (by decide +kernel) ?_
      obtain ⟨c3, E⟩ := gd_E E
      refine g_iald X (by decide +kernel) (ly hK px0 fl11_66 rfl) c3 ?_
      refine g_iload_n (n := 2) X (by decide +kernel) 2 rfl ?_
      rcases it_E E with ⟨c4, E⟩ | ⟨c4, E⟩
      · refine g_icmp_ne_f (off := 30) (tgt := 57) X (by decide +kernel) (by decide) (fun z => z c4) ?_
        refine g_aload_n (n := 0) X (by decide +kernel) 0 rfl ?_
        refine g_getS X (by decide +kernel) fl11_69 px0 ?_
        refine g_bipush (n := 64) (x := (64 : Int32)) X (by decide +kernel) (by decide) ?_
        refine g_iload_n (n := 1) X (by decide +kernel) 1 rfl ?_
        refine g_imul X (by decide +kernel) ?_
        refine g_iload (n := 4) X (by decide +kernel) 4 rfl ?_
        refine g_iadd X (by decide +kernel) ?_
        obtain ⟨c5, E⟩ := gd_E E
        refine g_iald X (by decide +kernel) (ly hK px0 fl11_69 rfl) c5 ?_
        rcases it_E E with ⟨c6, E⟩ | ⟨c6, E⟩
        · refine g_if_eq_t (off := 7) (tgt := 49) X (by decide +kernel) (by decide) c6 ?_
          refine g_sub [1, 4] rfl ?_
          exact w11_firstFor_J49 X hK x1 x4 E
        · refine g_if_eq_f (off := 7) (tgt := 49) X (by decide +kernel) (by decide) c6 ?_
          refine g_iload_n (n := 3) X (by decide +kernel) 3 rfl ?_
          rcases it_E E with ⟨c7, E⟩ | ⟨c7, E⟩
          · refine g_if_eq_t (off := 11) (tgt := 57) X (by decide +kernel) (by decide) c7 ?_
            obtain ⟨x4_8, ex4_8, E⟩ := lt_E E
            refine s_iinc (i := 4) (n := 1) (y := x4_8) X (by decide +kernel) 4 rfl (by decide) ex4_8 (ls_next (by decide) (Or.inr rfl) (ls_next (by decide) (Or.inr rfl) (ls_next (by decide) (Or.inr rfl) (ls_next (by decide) (Or.inr rfl) (ls_here ls_end))))) ?_
            refine g_goto (off := -57) (tgt := 3) X (by decide +kernel) (by decide) ?_
            exact ih x4_8  E
          · refine g_if_eq_f (off := 11) (tgt := 57) X (by decide +kernel) (by decide) c7 ?_
            refine g_sub [1, 4] rfl ?_
            exact w11_firstFor_J49 X hK x1 x4 E
      · refine g_icmp_ne_t (off := 30) (tgt := 57) X (by decide +kernel) (by decide) c4 ?_
        obtain ⟨x4_9, ex4_9, E⟩ := lt_E E
        refine s_iinc (i := 4) (n := 1) (y := x4_9) X (by decide +kernel) 4 rfl (by decide) ex4_9 (ls_next (by decide) (Or.inr rfl) (ls_next (by decide) (Or.inr rfl) (ls_next (by decide) (Or.inr rfl) (ls_next (by decide) (Or.inr rfl) (ls_here ls_end))))) ?_
        refine g_goto (off := -57) (tgt := 3) X (by decide +kernel) (by decide) ?_
        exact ih x4_9  E
set_option maxHeartbeats 4000000 in
set_option maxRecDepth 20000 in
theorem c11_firstFor {sp : Sp} {K : Ly} {sz n : Nat} (hK : LyOk K) (o : Nat) (a1 : Int32) (a2 : Int32) (a3 : Int32) (h : Hp) (ho : K o = some (.inl 11)) {v : Int32} (E : f11_firstFor K n o a1 a2 a3 h = some v) : Con sp y11_firstFor prog_13_method_76_code 5 (some (.int)) 1 0 0 [.ref o, .int a1, .int a2, .int a3] sz K h (some (.int v)) sz K h := by
  refine Con.of (by decide) (Nat.le_of_ble_eq_true rfl) (fun Γ X _ => ?_)
  show Go Γ (0, 0) 0 [(0, .ref o), (1, .int a1), (2, .int a2), (3, .int a3)] [] sz K h
  unfold f11_firstFor at E
  refine g_iconst (n := 0) (x := (0 : Int32)) X (by decide +kernel) (by decide) ?_
  refine s_istore (i := 4) X (by decide +kernel) (by decide) rfl (ls_next (by decide) (Or.inr rfl) (ls_next (by decide) (Or.inr rfl) (ls_next (by decide) (Or.inr rfl) (ls_next (by decide) (Or.inr rfl) (ls_ins ls_end))))) ?_
  exact w11_firstFor_L3 X hK o a1 a2 a3 ho n (0 : Int32) E
-- AskedNamesModel.dataCome
def f11_dataCome_L103 (K : Ly) (n : Nat) (x0 : Nat) (x1 : Int32) (x3 : Int32) (x4 : Int32)   : Nat → Int32 → Hp → Option Hp
  | 0, _, _ => none
  | k + 1, x5, h =>
    if x5 = (-1 : Int32) then (
    some h)
    else (
    bp (f11_answers K n x0 x1 x5 h) fun h18 =>
    bp (f11_firstFor K n x0 x1 x3 x4 h18) fun y20 =>
    f11_dataCome_L103 K n x0 x1 x3 x4  k y20 h18)
def f11_dataCome_J79 (K : Ly) (n : Nat)  (x0 : Nat) (x1 : Int32) (x3 : Int32) (x4 : Int32) (x5 : Int32) (h : Hp) : Option Hp :=
    bp (f11_ofNet K n x0 ((5 : Int32) + x1) h) fun y12 =>
    if y12 ≤ 0 then (
    f11_dataCome_L103 K n x0 x1 x3 x4 n x5 h)
    else (
    bp (f11_putsLast K n x0 x1 x3 (h.1 x0 71) (h.1 x0 72) h) fun h15 =>
    f11_dataCome_L103 K n x0 x1 x3 x4 n x5 h15)
def f11_dataCome_J16 (K : Ly) (n : Nat)  (x0 : Nat) (x1 : Int32) (x2 : Int32) (x3 : Int32) (s0 : Int32) (h : Hp) : Option Hp :=
    bp (f11_firstFor K n x0 x1 x3 s0 h) fun y3 =>
    if y3 = (-1 : Int32) then (
    lt (sI h x0 69 ((h.1 x0 69) + (1 : Int32))) fun h5 =>
    some h5)
    else (
    gd (inb y3 384) <|
    if (h.1 (x0 + 25) y3.toNatClampNeg) = x2 then (
    gd (inb y3 384) <|
    gd (inb (((6 : Int32) * x1) + x2) 36) <|
    lt (sI h (x0 + 13) (((6 : Int32) * x1) + x2).toNatClampNeg ((h.1 x0 27) - (h.1 (x0 + 27) y3.toNatClampNeg))) fun h10 =>
    f11_dataCome_J79 K n x0 x1 x3 s0 y3 h10)
    else (
    f11_dataCome_J79 K n x0 x1 x3 s0 y3 h))
def f11_dataCome (K : Ly) (n : Nat) (o : Nat) (a1 : Int32) (a2 : Int32) (a3 : Int32) (h : Hp) : Option Hp :=
    f11_dataCome_J16 K n o a1 a2 a3 (if (h.1 o 71) < (h.1 o 27) then (0 : Int32) else (1 : Int32)) h
set_option maxHeartbeats 4000000 in
set_option maxRecDepth 20000 in
theorem w11_dataCome_L103 {Γ : CT} {sp : Sp} {K : Ly} {sz n : Nat} {hf : Hp}  (X : Ok Γ sp prog_13_method_77_code Rc11 6 none 6 none sz K hf) (hK : LyOk K) (x0 : Nat) (x1 : Int32) (x3 : Int32) (x4 : Int32)  (px0 : K x0 = some (.inl 11))  : ∀ (k : Nat) (x5 : Int32) (h : Hp), f11_dataCome_L103 K n x0 x1 x3 x4  k x5 h = some hf → Go Γ (0, 0) 103 [(0, .ref x0), (1, .int x1), (3, .int x3), (4, .int x4), (5, .int x5)] [] sz K h := by
  intro k
  induction k with
  | zero => intro x5 h E; cases E
  | succ k ih =>
    intro x5 h E
    unfold f11_dataCome_L103 at E
    refine g_iload (n := 5) X (by decide +kernel) 4 rfl ?_
    refine g_iconst (n := -1) (x := (-1 : Int32)) X (by decide +kernel) (by decide) ?_
    rcases it_E E with ⟨c16, E⟩ | ⟨c16, E⟩
    · refine g_icmp_eq_t (off := 23) (tgt := 129) X (by decide +kernel) (by decide) c16 ?_
      obtain rfl := Option.some.inj E
      exact g_return X (by decide +kernel)
    · refine g_icmp_eq_f (off := 23) (tgt := 129) X (by decide +kernel) (by decide) c16 ?_
      refine g_aload_n (n := 0) X (by decide +kernel) 0 rfl ?_
      refine g_iload_n (n := 1) X (by decide +kernel) 1 rfl ?_
      refine g_iload (n := 5) X (by decide +kernel) 4 rfl ?_
      obtain ⟨h18, e17, E⟩ := bp_E E
      refine g_callV0 (st := []) X [.int x1, .int x5] (by decide +kernel) ml11_494 px0 rfl rfl (by decide) (Nat.le_of_ble_eq_true rfl) (c11_answers hK x0 x1 x5 h px0 e17) ?_
      refine g_aload_n (n := 0) X (by decide +kernel) 0 rfl ?_
      refine g_iload_n (n := 1) X (by decide +kernel) 1 rfl ?_
      refine g_iload_n (n := 3) X (by decide +kernel) 2 rfl ?_
      refine g_iload (n := 4) X (by decide +kernel) 3 rfl ?_
      obtain ⟨y20, e19, E⟩ := bp_E E
      refine g_callV1 (st := []) X [.int x1, .int x3, .int x4] (by decide +kernel) ml11_490 px0 rfl rfl (by decide) (Nat.le_of_ble_eq_true rfl) (c11_firstFor hK x0 x1 x3 x4 h18 px0 e19) ?_
      refine s_istore (i := 5) X (by decide +kernel) (by decide) rfl (ls_next (by decide) (Or.inr rfl) (ls_next (by decide) (Or.inr rfl) (ls_next (by decide) (Or.inr rfl) (ls_next (by decide) (Or.inr rfl) (ls_here ls_end))))) ?_
      refine g_goto (off := -23) (tgt := 103) X (by decide +kernel) (by decide) ?_
      exact ih y20 h18  E
set_option maxHeartbeats 4000000 in
set_option maxRecDepth 20000 in
theorem w11_dataCome_J79 {Γ : CT} {sp : Sp} {K : Ly} {sz n : Nat} {hf : Hp}   (X : Ok Γ sp prog_13_method_77_code Rc11 6 none 6 none sz K hf) (hK : LyOk K) (x0 : Nat) (x1 : Int32) (x3 : Int32) (x4 : Int32) (x5 : Int32) (h : Hp)  (px0 : K x0 = some (.inl 11)) (E : f11_dataCome_J79 K n x0 x1 x3 x4 x5 h = some hf) : Go Γ (0, 0) 79 [(0, .ref x0), (1, .int x1), (3, .int x3), (4, .int x4), (5, .int x5)] [] sz K h := by
  unfold f11_dataCome_J79 at E
  refine g_aload_n (n := 0) X (by decide +kernel) 0 rfl ?_
  refine g_iconst (n := 5) (x := (5 : Int32)) X (by decide +kernel) (by decide) ?_
  refine g_iload_n (n := 1) X (by decide +kernel) 1 rfl ?_
  refine g_iadd X (by decide +kernel) ?_
  obtain ⟨y12, e11, E⟩ := bp_E E
  refine g_callV1 (st := []) X [.int ((5 : Int32) + x1)] (by decide +kernel) ml11_335 px0 rfl rfl (by decide) (Nat.le_of_ble_eq_true rfl) (c11_ofNet hK x0 ((5 : Int32) + x1) h px0 e11) ?_
  rcases it_E E with ⟨c13, E⟩ | ⟨c13, E⟩
  · refine g_if_le_t (off := 17) (tgt := 103) X (by decide +kernel) (by decide) c13 ?_
    exact w11_dataCome_L103 X hK x0 x1 x3 x4 px0 n x5 h E
  · refine g_if_le_f (off := 17) (tgt := 103) X (by decide +kernel) (by decide) c13 ?_
    refine g_aload_n (n := 0) X (by decide +kernel) 0 rfl ?_
    refine g_iload_n (n := 1) X (by decide +kernel) 1 rfl ?_
    refine g_iload_n (n := 3) X (by decide +kernel) 2 rfl ?_
    refine g_aload_n (n := 0) X (by decide +kernel) 0 rfl ?_
    refine g_getI X (by decide +kernel) fl11_411 px0 ?_
    refine g_aload_n (n := 0) X (by decide +kernel) 0 rfl ?_
    refine g_getI X (by decide +kernel) fl11_414 px0 ?_
    obtain ⟨h15, e14, E⟩ := bp_E E
    refine g_callV0 (st := []) X [.int x1, .int x3, .int (h.1 x0 71), .int (h.1 x0 72)] (by decide +kernel) ml11_466 px0 rfl rfl (by decide) (Nat.le_of_ble_eq_true rfl) (c11_putsLast hK x0 x1 x3 (h.1 x0 71) (h.1 x0 72) h px0 e14) ?_
    exact w11_dataCome_L103 X hK x0 x1 x3 x4 px0 n x5 h15 E
set_option maxHeartbeats 4000000 in
set_option maxRecDepth 20000 in
theorem w11_dataCome_J16 {Γ : CT} {sp : Sp} {K : Ly} {sz n : Nat} {hf : Hp}   (X : Ok Γ sp prog_13_method_77_code Rc11 6 none 6 none sz K hf) (hK : LyOk K) (x0 : Nat) (x1 : Int32) (x2 : Int32) (x3 : Int32) (s0 : Int32) (h : Hp)  (px0 : K x0 = some (.inl 11)) (E : f11_dataCome_J16 K n x0 x1 x2 x3 s0 h = some hf) : Go Γ (0, 0) 16 [(0, .ref x0), (1, .int x1), (2, .int x2), (3, .int x3)] [.int s0] sz K h := by
  unfold f11_dataCome_J16 at E
  refine s_istore (i := 4) X (by decide +kernel) (by decide) rfl (ls_next (by decide) (Or.inr rfl) (ls_next (by decide) (Or.inr rfl) (ls_next (by decide) (Or.inr rfl) (ls_next (by decide) (Or.inr rfl) (ls_ins ls_end))))) ?_
  refine g_aload_n (n := 0) X (by decide +kernel) 0 rfl ?_
  refine g_iload_n (n := 1) X (by decide +kernel) 1 rfl ?_
  refine g_iload_n (n := 3) X (by decide +kernel) 3 rfl ?_
  refine g_iload (n := 4) X (by decide +kernel) 4 rfl ?_
  obtain ⟨y3, e2, E⟩ := bp_E E
  refine g_callV1 (st := []) X [.int x1, .int x3, .int s0] (by decide +kernel) ml11_490 px0 rfl rfl (by decide) (Nat.le_of_ble_eq_true rfl) (c11_firstFor hK x0 x1 x3 s0 h px0 e2) ?_
  refine s_istore (i := 5) X (by decide +kernel) (by decide) rfl (ls_next (by decide) (Or.inr rfl) (ls_next (by decide) (Or.inr rfl) (ls_next (by decide) (Or.inr rfl) (ls_next (by decide) (Or.inr rfl) (ls_next (by decide) (Or.inr rfl) (ls_ins ls_end)))))) ?_
  refine g_iload (n := 5) X (by decide +kernel) 5 rfl ?_
  refine g_iconst (n := -1) (x := (-1 : Int32)) X (by decide +kernel) (by decide) ?_
  rcases it_E E with ⟨c4, E⟩ | ⟨c4, E⟩
  · refine g_icmp_ne_f (off := 14) (tgt := 45) X (by decide +kernel) (by decide) (fun z => z c4) ?_
    refine g_aload_n (n := 0) X (by decide +kernel) 0 rfl ?_
    refine g_dup X (by decide +kernel) rfl ?_
    refine g_getI X (by decide +kernel) fl11_402 px0 ?_
    refine g_iconst (n := 1) (x := (1 : Int32)) X (by decide +kernel) (by decide) ?_
    refine g_iadd X (by decide +kernel) ?_
    obtain ⟨h5, eh5, E⟩ := lt_E E
    refine g_putI X (by decide +kernel) fp11_402 px0 eh5 ?_
    obtain rfl := Option.some.inj E
    exact g_return X (by decide +kernel)
  · refine g_icmp_ne_t (off := 14) (tgt := 45) X (by decide +kernel) (by decide) c4 ?_
    refine g_aload_n (n := 0) X (by decide +kernel) 0 rfl ?_
    refine g_getS X (by decide +kernel) fl11_84 px0 ?_
    refine g_iload (n := 5) X (by decide +kernel) 5 rfl ?_
    obtain ⟨c6, E⟩ := gd_E E
    refine g_iald X (by decide +kernel) (ly hK px0 fl11_84 rfl) c6 ?_
    refine g_iload_n (n := 2) X (by decide +kernel) 2 rfl ?_
    rcases it_E E with ⟨c7, E⟩ | ⟨c7, E⟩
    · refine g_icmp_ne_f (off := 26) (tgt := 79) X (by decide +kernel) (by decide) (fun z => z c7) ?_
      refine g_aload_n (n := 0) X (by decide +kernel) 0 rfl ?_
      refine g_getS X (by decide +kernel) fl11_48 px0 ?_
      refine g_bipush (n := 6) (x := (6 : Int32)) X (by decide +kernel) (by decide) ?_
      refine g_iload_n (n := 1) X (by decide +kernel) 1 rfl ?_
      refine g_imul X (by decide +kernel) ?_
      refine g_iload_n (n := 2) X (by decide +kernel) 2 rfl ?_
      refine g_iadd X (by decide +kernel) ?_
      refine g_aload_n (n := 0) X (by decide +kernel) 0 rfl ?_
      refine g_getI X (by decide +kernel) fl11_384 px0 ?_
      refine g_aload_n (n := 0) X (by decide +kernel) 0 rfl ?_
      refine g_getS X (by decide +kernel) fl11_90 px0 ?_
      refine g_iload (n := 5) X (by decide +kernel) 5 rfl ?_
      obtain ⟨c8, E⟩ := gd_E E
      refine g_iald X (by decide +kernel) (ly hK px0 fl11_90 rfl) c8 ?_
      refine g_isub X (by decide +kernel) ?_
      obtain ⟨c9, E⟩ := gd_E E
      obtain ⟨h10, eh10, E⟩ := lt_E E
      refine g_iast X (by decide +kernel) (ly hK px0 fl11_48 rfl) c9 eh10 ?_
      refine g_sub [0, 1, 3, 4, 5] rfl ?_
      exact w11_dataCome_J79 X hK x0 x1 x3 s0 y3 h10 px0 E
    · refine g_icmp_ne_t (off := 26) (tgt := 79) X (by decide +kernel) (by decide) c7 ?_
      refine g_sub [0, 1, 3, 4, 5] rfl ?_
      exact w11_dataCome_J79 X hK x0 x1 x3 s0 y3 h px0 E
set_option maxHeartbeats 4000000 in
set_option maxRecDepth 20000 in
theorem c11_dataCome {sp : Sp} {K : Ly} {sz n : Nat} (hK : LyOk K) (o : Nat) (a1 : Int32) (a2 : Int32) (a3 : Int32) (h : Hp) (ho : K o = some (.inl 11)) {hf : Hp} (E : f11_dataCome K n o a1 a2 a3 h = some hf) : Con sp y11_dataCome prog_13_method_77_code 6 none 6 0 0 [.ref o, .int a1, .int a2, .int a3] sz K h none sz K hf := by
  refine Con.of (by decide) (Nat.le_of_ble_eq_true rfl) (fun Γ X _ => ?_)
  show Go Γ (0, 0) 0 [(0, .ref o), (1, .int a1), (2, .int a2), (3, .int a3)] [] sz K h
  unfold f11_dataCome at E
  refine g_aload_n (n := 0) X (by decide +kernel) 0 rfl ?_
  refine g_getI X (by decide +kernel) fl11_411 ho ?_
  refine g_aload_n (n := 0) X (by decide +kernel) 0 rfl ?_
  refine g_getI X (by decide +kernel) fl11_384 ho ?_
  have hJ : Go Γ (0, 0) 16 [(0, .ref o), (1, .int a1), (2, .int a2), (3, .int a3)] [.int (if (h.1 o 71) < (h.1 o 27) then (0 : Int32) else (1 : Int32))] sz K h := by
    exact w11_dataCome_J16 X hK o a1 a2 a3 (if (h.1 o 71) < (h.1 o 27) then (0 : Int32) else (1 : Int32)) h ho E
  clear E
  by_cases c1 : (h.1 o 71) < (h.1 o 27)
  · rw [if_pos c1] at hJ
    refine g_icmp_lt_t (off := 7) (tgt := 15) X (by decide +kernel) (by decide) c1 ?_
    refine g_iconst (n := 0) (x := (0 : Int32)) X (by decide +kernel) (by decide) ?_
    exact hJ
  · rw [if_neg c1] at hJ
    refine g_icmp_lt_f (off := 7) (tgt := 15) X (by decide +kernel) (by decide) c1 ?_
    refine g_iconst (n := 1) (x := (1 : Int32)) X (by decide +kernel) (by decide) ?_
    refine g_goto (off := 4) (tgt := 16) X (by decide +kernel) (by decide) ?_
    exact hJ
-- AskedNamesModel.nackComes
def f11_nackComes_L94 (K : Ly) (n : Nat) (x0 : Nat) (x1 : Int32) (x5 : Int32)   : Nat → Int32 → Hp → Option Hp
  | 0, _, _ => none
  | k + 1, x6, h =>
    if (64 : Int32) ≤ x6 then (
    gd (inb x1 6) <|
    gd (inb x5 384) <|
    gd (inb x1 6) <|
    lt (sL h (x0 + 12) x1.toNatClampNeg ((h.2.1 (x0 + 12) x1.toNatClampNeg) ||| (h.2.1 (x0 + 23) x5.toNatClampNeg))) fun h22 =>
    bp (f11_removes K n x0 x1 x5 h22) fun h24 =>
    some h24)
    else (
    gd (inb x5 384) <|
    if (f11_hasL (h.2.1 (x0 + 22) x5.toNatClampNeg) x6) = 0 then (
    lt (x6 + (1 : Int32)) fun x6_27 =>
    f11_nackComes_L94 K n x0 x1 x5  k x6_27 h)
    else (
    bp (f11_refused K n x0 x6 h) fun h29 =>
    lt (x6 + (1 : Int32)) fun x6_30 =>
    f11_nackComes_L94 K n x0 x1 x5  k x6_30 h29))
def f11_nackComes_L51 (K : Ly) (n : Nat) (x0 : Nat) (x1 : Int32) (x3 : Int32) (x4 : Int32) (x5 : Int32)   : Nat → Int32 → Hp → Option Hp
  | 0, _, _ => none
  | k + 1, x6, h =>
    if (h.1 x0 23) ≤ x6 then (
    f11_nackComes_L94 K n x0 x1 x5 n (0 : Int32) h)
    else (
    gd (inb x5 384) <|
    if (f11_has (h.1 (x0 + 21) x5.toNatClampNeg) x6) = 0 then (
    lt (x6 + (1 : Int32)) fun x6_14 =>
    f11_nackComes_L51 K n x0 x1 x3 x4 x5  k x6_14 h)
    else (
    bp (f11_nackTo K n x0 x1 x6 x3 x4 h) fun h16 =>
    lt (x6 + (1 : Int32)) fun x6_17 =>
    f11_nackComes_L51 K n x0 x1 x3 x4 x5  k x6_17 h16))
def f11_nackComes (K : Ly) (n : Nat) (o : Nat) (a1 : Int32) (a2 : Int32) (a3 : Int32) (a4 : Int32) (h : Hp) : Option Hp :=
    bp (f11_entryOf K n o a1 a3 a4 h) fun y2 =>
    if y2 = (-1 : Int32) then (
    some h)
    else (
    gd (inb y2 384) <|
    if (h.1 (o + 25) y2.toNatClampNeg) = a2 then (
    bd (f11_goesOn K n o a1 y2 h) fun y8 h7 =>
    if y8 = 0 then (
    lt (sI h7 o 71 ((h7.1 o 71) + (1 : Int32))) fun h10 =>
    f11_nackComes_L51 K n o a1 a3 a4 y2 n (0 : Int32) h10)
    else (
    some h7))
    else (
    some h))
set_option maxHeartbeats 4000000 in
set_option maxRecDepth 20000 in
theorem w11_nackComes_L94 {Γ : CT} {sp : Sp} {K : Ly} {sz n : Nat} {hf : Hp}  (X : Ok Γ sp prog_13_method_78_code Rc11 7 none 6 none sz K hf) (hK : LyOk K) (x0 : Nat) (x1 : Int32) (x5 : Int32)  (px0 : K x0 = some (.inl 11))  : ∀ (k : Nat) (x6 : Int32) (h : Hp), f11_nackComes_L94 K n x0 x1 x5  k x6 h = some hf → Go Γ (0, 0) 94 [(0, .ref x0), (1, .int x1), (5, .int x5), (6, .int x6)] [] sz K h := by
  intro k
  induction k with
  | zero => intro x6 h E; cases E
  | succ k ih =>
    intro x6 h E
    unfold f11_nackComes_L94 at E
    refine g_iload (n := 6) X (by decide +kernel) 3 rfl ?_
    refine g_bipush (n := 64) (x := (64 : Int32)) X (by decide +kernel) (by decide) ?_
    rcases it_E E with ⟨c18, E⟩ | ⟨c18, E⟩
    · refine g_icmp_ge_t (off := 30) (tgt := 128) X (by decide +kernel) (by decide) c18 ?_
      refine g_aload_n (n := 0) X (by decide +kernel) 0 rfl ?_
      refine g_getS X (by decide +kernel) fl11_44 px0 ?_
      refine g_iload_n (n := 1) X (by decide +kernel) 1 rfl ?_
      refine g_dup2 X (by decide +kernel) rfl rfl ?_
      obtain ⟨c19, E⟩ := gd_E E
      refine g_lald X (by decide +kernel) (ly hK px0 fl11_44 rfl) c19 ?_
      refine g_aload_n (n := 0) X (by decide +kernel) 0 rfl ?_
      refine g_getS X (by decide +kernel) fl11_78 px0 ?_
      refine g_iload (n := 5) X (by decide +kernel) 2 rfl ?_
      obtain ⟨c20, E⟩ := gd_E E
      refine g_lald X (by decide +kernel) (ly hK px0 fl11_78 rfl) c20 ?_
      refine g_lor X (by decide +kernel) ?_
      obtain ⟨c21, E⟩ := gd_E E
      obtain ⟨h22, eh22, E⟩ := lt_E E
      refine g_last X (by decide +kernel) (ly hK px0 fl11_44 rfl) c21 eh22 ?_
      refine g_aload_n (n := 0) X (by decide +kernel) 0 rfl ?_
      refine g_iload_n (n := 1) X (by decide +kernel) 1 rfl ?_
      refine g_iload (n := 5) X (by decide +kernel) 2 rfl ?_
      obtain ⟨h24, e23, E⟩ := bp_E E
      refine g_callV0 (st := []) X [.int x1, .int x5] (by decide +kernel) ml11_459 px0 rfl rfl (by decide) (Nat.le_of_ble_eq_true rfl) (c11_removes hK x0 x1 x5 h22 px0 e23) ?_
      obtain rfl := Option.some.inj E
      exact g_return X (by decide +kernel)
    · refine g_icmp_ge_f (off := 30) (tgt := 128) X (by decide +kernel) (by decide) c18 ?_
      refine g_aload_n (n := 0) X (by decide +kernel) 0 rfl ?_
      refine g_getS X (by decide +kernel) fl11_75 px0 ?_
      refine g_iload (n := 5) X (by decide +kernel) 2 rfl ?_
      obtain ⟨c25, E⟩ := gd_E E
      refine g_lald X (by decide +kernel) (ly hK px0 fl11_75 rfl) c25 ?_
      refine g_iload (n := 6) X (by decide +kernel) 3 rfl ?_
      refine g_callS1 (st := []) X [.long (h.2.1 (x0 + 22) x5.toNatClampNeg), .int x6] (by decide +kernel) ml11_475 (by decide) (Nat.le_of_ble_eq_true rfl) (c11_hasL hK (h.2.1 (x0 + 22) x5.toNatClampNeg) x6 h ) ?_
      rcases it_E E with ⟨c26, E⟩ | ⟨c26, E⟩
      · refine g_if_eq_t (off := 9) (tgt := 122) X (by decide +kernel) (by decide) c26 ?_
        obtain ⟨x6_27, ex6_27, E⟩ := lt_E E
        refine s_iinc (i := 6) (n := 1) (y := x6_27) X (by decide +kernel) 3 rfl (by decide) ex6_27 (ls_next (by decide) (Or.inr rfl) (ls_next (by decide) (Or.inr rfl) (ls_next (by decide) (Or.inr rfl) (ls_here ls_end)))) ?_
        refine g_goto (off := -31) (tgt := 94) X (by decide +kernel) (by decide) ?_
        exact ih x6_27 h  E
      · refine g_if_eq_f (off := 9) (tgt := 122) X (by decide +kernel) (by decide) c26 ?_
        refine g_aload_n (n := 0) X (by decide +kernel) 0 rfl ?_
        refine g_iload (n := 6) X (by decide +kernel) 3 rfl ?_
        obtain ⟨h29, e28, E⟩ := bp_E E
        refine g_callV0 (st := []) X [.int x6] (by decide +kernel) ml11_430 px0 rfl rfl (by decide) (Nat.le_of_ble_eq_true rfl) (c11_refused hK x0 x6 h px0 e28) ?_
        obtain ⟨x6_30, ex6_30, E⟩ := lt_E E
        refine s_iinc (i := 6) (n := 1) (y := x6_30) X (by decide +kernel) 3 rfl (by decide) ex6_30 (ls_next (by decide) (Or.inr rfl) (ls_next (by decide) (Or.inr rfl) (ls_next (by decide) (Or.inr rfl) (ls_here ls_end)))) ?_
        refine g_goto (off := -31) (tgt := 94) X (by decide +kernel) (by decide) ?_
        exact ih x6_30 h29  E
set_option maxHeartbeats 4000000 in
set_option maxRecDepth 20000 in
theorem w11_nackComes_L51 {Γ : CT} {sp : Sp} {K : Ly} {sz n : Nat} {hf : Hp}  (X : Ok Γ sp prog_13_method_78_code Rc11 7 none 6 none sz K hf) (hK : LyOk K) (x0 : Nat) (x1 : Int32) (x3 : Int32) (x4 : Int32) (x5 : Int32)  (px0 : K x0 = some (.inl 11))  : ∀ (k : Nat) (x6 : Int32) (h : Hp), f11_nackComes_L51 K n x0 x1 x3 x4 x5  k x6 h = some hf → Go Γ (0, 0) 51 [(0, .ref x0), (1, .int x1), (3, .int x3), (4, .int x4), (5, .int x5), (6, .int x6)] [] sz K h := by
  intro k
  induction k with
  | zero => intro x6 h E; cases E
  | succ k ih =>
    intro x6 h E
    unfold f11_nackComes_L51 at E
    refine g_iload (n := 6) X (by decide +kernel) 5 rfl ?_
    refine g_aload_n (n := 0) X (by decide +kernel) 0 rfl ?_
    refine g_getI X (by decide +kernel) fl11_339 px0 ?_
    rcases it_E E with ⟨c11, E⟩ | ⟨c11, E⟩
    · refine g_icmp_ge_t (off := 34) (tgt := 91) X (by decide +kernel) (by decide) c11 ?_
      refine g_iconst (n := 0) (x := (0 : Int32)) X (by decide +kernel) (by decide) ?_
      refine s_istore (i := 6) X (by decide +kernel) (by decide) rfl (ls_next (by decide) (Or.inr rfl) (ls_next (by decide) (Or.inr rfl) (ls_next (by decide) (Or.inr rfl) (ls_next (by decide) (Or.inr rfl) (ls_next (by decide) (Or.inr rfl) (ls_here ls_end)))))) ?_
      refine g_sub [0, 1, 4, 5] rfl ?_
      exact w11_nackComes_L94 X hK x0 x1 x5 px0 n (0 : Int32) h E
    · refine g_icmp_ge_f (off := 34) (tgt := 91) X (by decide +kernel) (by decide) c11 ?_
      refine g_aload_n (n := 0) X (by decide +kernel) 0 rfl ?_
      refine g_getS X (by decide +kernel) fl11_72 px0 ?_
      refine g_iload (n := 5) X (by decide +kernel) 4 rfl ?_
      obtain ⟨c12, E⟩ := gd_E E
      refine g_iald X (by decide +kernel) (ly hK px0 fl11_72 rfl) c12 ?_
      refine g_iload (n := 6) X (by decide +kernel) 5 rfl ?_
      refine g_callS1 (st := []) X [.int (h.1 (x0 + 21) x5.toNatClampNeg), .int x6] (by decide +kernel) ml11_173 (by decide) (Nat.le_of_ble_eq_true rfl) (c11_has hK (h.1 (x0 + 21) x5.toNatClampNeg) x6 h ) ?_
      rcases it_E E with ⟨c13, E⟩ | ⟨c13, E⟩
      · refine g_if_eq_t (off := 13) (tgt := 85) X (by decide +kernel) (by decide) c13 ?_
        obtain ⟨x6_14, ex6_14, E⟩ := lt_E E
        refine s_iinc (i := 6) (n := 1) (y := x6_14) X (by decide +kernel) 5 rfl (by decide) ex6_14 (ls_next (by decide) (Or.inr rfl) (ls_next (by decide) (Or.inr rfl) (ls_next (by decide) (Or.inr rfl) (ls_next (by decide) (Or.inr rfl) (ls_next (by decide) (Or.inr rfl) (ls_here ls_end)))))) ?_
        refine g_goto (off := -37) (tgt := 51) X (by decide +kernel) (by decide) ?_
        exact ih x6_14 h  E
      · refine g_if_eq_f (off := 13) (tgt := 85) X (by decide +kernel) (by decide) c13 ?_
        refine g_aload_n (n := 0) X (by decide +kernel) 0 rfl ?_
        refine g_iload_n (n := 1) X (by decide +kernel) 1 rfl ?_
        refine g_iload (n := 6) X (by decide +kernel) 5 rfl ?_
        refine g_iload_n (n := 3) X (by decide +kernel) 2 rfl ?_
        refine g_iload (n := 4) X (by decide +kernel) 3 rfl ?_
        obtain ⟨h16, e15, E⟩ := bp_E E
        refine g_callV0 (st := []) X [.int x1, .int x6, .int x3, .int x4] (by decide +kernel) ml11_433 px0 rfl rfl (by decide) (Nat.le_of_ble_eq_true rfl) (c11_nackTo hK x0 x1 x6 x3 x4 h px0 e15) ?_
        obtain ⟨x6_17, ex6_17, E⟩ := lt_E E
        refine s_iinc (i := 6) (n := 1) (y := x6_17) X (by decide +kernel) 5 rfl (by decide) ex6_17 (ls_next (by decide) (Or.inr rfl) (ls_next (by decide) (Or.inr rfl) (ls_next (by decide) (Or.inr rfl) (ls_next (by decide) (Or.inr rfl) (ls_next (by decide) (Or.inr rfl) (ls_here ls_end)))))) ?_
        refine g_goto (off := -37) (tgt := 51) X (by decide +kernel) (by decide) ?_
        exact ih x6_17 h16  E
set_option maxHeartbeats 4000000 in
set_option maxRecDepth 20000 in
theorem c11_nackComes {sp : Sp} {K : Ly} {sz n : Nat} (hK : LyOk K) (o : Nat) (a1 : Int32) (a2 : Int32) (a3 : Int32) (a4 : Int32) (h : Hp) (ho : K o = some (.inl 11)) {hf : Hp} (E : f11_nackComes K n o a1 a2 a3 a4 h = some hf) : Con sp y11_nackComes prog_13_method_78_code 7 none 6 0 0 [.ref o, .int a1, .int a2, .int a3, .int a4] sz K h none sz K hf := by
  refine Con.of (by decide) (Nat.le_of_ble_eq_true rfl) (fun Γ X _ => ?_)
  show Go Γ (0, 0) 0 [(0, .ref o), (1, .int a1), (2, .int a2), (3, .int a3), (4, .int a4)] [] sz K h
  unfold f11_nackComes at E
  refine g_aload_n (n := 0) X (by decide +kernel) 0 rfl ?_
  refine g_iload_n (n := 1) X (by decide +kernel) 1 rfl ?_
  refine g_iload_n (n := 3) X (by decide +kernel) 3 rfl ?_
  refine g_iload (n := 4) X (by decide +kernel) 4 rfl ?_
  obtain ⟨y2, e1, E⟩ := bp_E E
  refine g_callV1 (st := []) X [.int a1, .int a3, .int a4] (by decide +kernel) ml11_472 ho rfl rfl (by decide) (Nat.le_of_ble_eq_true rfl) (c11_entryOf hK o a1 a3 a4 h ho e1) ?_
  refine s_istore (i := 5) X (by decide +kernel) (by decide) rfl (ls_next (by decide) (Or.inr rfl) (ls_next (by decide) (Or.inr rfl) (ls_next (by decide) (Or.inr rfl) (ls_next (by decide) (Or.inr rfl) (ls_next (by decide) (Or.inr rfl) (ls_ins ls_end)))))) ?_
  refine g_iload (n := 5) X (by decide +kernel) 5 rfl ?_
  refine g_iconst (n := -1) (x := (-1 : Int32)) X (by decide +kernel) (by decide) ?_
  rcases it_E E with ⟨c3, E⟩ | ⟨c3, E⟩
  · refine g_icmp_eq_t (off := 24) (tgt := 37) X (by decide +kernel) (by decide) c3 ?_
    obtain rfl := Option.some.inj E
    exact g_return X (by decide +kernel)
  · refine g_icmp_eq_f (off := 24) (tgt := 37) X (by decide +kernel) (by decide) c3 ?_
    refine g_aload_n (n := 0) X (by decide +kernel) 0 rfl ?_
    refine g_getS X (by decide +kernel) fl11_84 ho ?_
    refine g_iload (n := 5) X (by decide +kernel) 5 rfl ?_
    obtain ⟨c4, E⟩ := gd_E E
    refine g_iald X (by decide +kernel) (ly hK ho fl11_84 rfl) c4 ?_
    refine g_iload_n (n := 2) X (by decide +kernel) 2 rfl ?_
    rcases it_E E with ⟨c5, E⟩ | ⟨c5, E⟩
    · refine g_icmp_ne_f (off := 13) (tgt := 37) X (by decide +kernel) (by decide) (fun z => z c5) ?_
      refine g_aload_n (n := 0) X (by decide +kernel) 0 rfl ?_
      refine g_iload_n (n := 1) X (by decide +kernel) 1 rfl ?_
      refine g_iload (n := 5) X (by decide +kernel) 5 rfl ?_
      obtain ⟨y8, h7, e6, E⟩ := bd_E E
      refine g_callV1 (st := []) X [.int a1, .int y2] (by decide +kernel) ml11_456 ho rfl rfl (by decide) (Nat.le_of_ble_eq_true rfl) (c11_goesOn hK o a1 y2 h ho e6) ?_
      rcases it_E E with ⟨c9, E⟩ | ⟨c9, E⟩
      · refine g_if_eq_t (off := 4) (tgt := 38) X (by decide +kernel) (by decide) c9 ?_
        refine g_aload_n (n := 0) X (by decide +kernel) 0 rfl ?_
        refine g_dup X (by decide +kernel) rfl ?_
        refine g_getI X (by decide +kernel) fl11_411 ho ?_
        refine g_iconst (n := 1) (x := (1 : Int32)) X (by decide +kernel) (by decide) ?_
        refine g_iadd X (by decide +kernel) ?_
        obtain ⟨h10, eh10, E⟩ := lt_E E
        refine g_putI X (by decide +kernel) fp11_411 ho eh10 ?_
        refine g_iconst (n := 0) (x := (0 : Int32)) X (by decide +kernel) (by decide) ?_
        refine s_istore (i := 6) X (by decide +kernel) (by decide) rfl (ls_next (by decide) (Or.inr rfl) (ls_next (by decide) (Or.inr rfl) (ls_next (by decide) (Or.inr rfl) (ls_next (by decide) (Or.inr rfl) (ls_next (by decide) (Or.inr rfl) (ls_next (by decide) (Or.inr rfl) (ls_ins ls_end))))))) ?_
        refine g_sub [0, 1, 3, 4, 5, 6] rfl ?_
        exact w11_nackComes_L51 X hK o a1 a3 a4 y2 ho n (0 : Int32) h10 E
      · refine g_if_eq_f (off := 4) (tgt := 38) X (by decide +kernel) (by decide) c9 ?_
        obtain rfl := Option.some.inj E
        exact g_return X (by decide +kernel)
    · refine g_icmp_ne_t (off := 13) (tgt := 37) X (by decide +kernel) (by decide) c5 ?_
      obtain rfl := Option.some.inj E
      exact g_return X (by decide +kernel)
-- AskedNamesModel.endsAll
def f11_endsAll_L80 (K : Ly) (n : Nat) (x0 : Nat) (x1 : Int32) (x2 : Int32) (x3 : Int32)  (r2 : Int32 → Hp → Option Hp) (r12 : Int32 → Hp → Option Hp) : Nat → Int32 → Hp → Option Hp
  | 0, _, _ => none
  | k + 1, x4, h =>
    if (64 : Int32) ≤ x4 then (
    bp (f11_removes K n x0 x1 x3 h) fun h18 =>
    r12 x2 h18)
    else (
    gd (inb x3 384) <|
    if (f11_hasL (h.2.1 (x0 + 22) x3.toNatClampNeg) x4) = 0 then (
    lt (x4 + (1 : Int32)) fun x4_21 =>
    f11_endsAll_L80 K n x0 x1 x2 x3 r2 r12 k x4_21 h)
    else (
    gd (inb x4 64) <|
    lt (sI h (x0 + 40) x4.toNatClampNeg (3 : Int32)) fun h23 =>
    gd (inb x4 64) <|
    lt (sI h23 (x0 + 41) x4.toNatClampNeg (h23.1 x0 27)) fun h25 =>
    lt (x4 + (1 : Int32)) fun x4_26 =>
    f11_endsAll_L80 K n x0 x1 x2 x3 r2 r12 k x4_26 h25))
def f11_endsAll_L12 (K : Ly) (n : Nat) (x0 : Nat) (x1 : Int32)  (r2 : Int32 → Hp → Option Hp) : Nat → Int32 → Hp → Option Hp
  | 0, _, _ => none
  | k + 1, x2, h =>
    gd (inb x1 6) <|
    if (h.1 (x0 + 18) x1.toNatClampNeg) ≤ x2 then (
    lt (x1 + (1 : Int32)) fun x1_4 =>
    r2 x1_4 h)
    else (
    lt (((64 : Int32) * x1) + x2) fun x3_5 =>
    gd (inb x3_5 384) <|
    if (h.1 (x0 + 28) x3_5.toNatClampNeg) = (h.1 x0 27) then (
    gd (inb x1 6) <|
    gd (inb x3_5 384) <|
    gd (inb x1 6) <|
    lt (sL h (x0 + 12) x1.toNatClampNeg ((h.2.1 (x0 + 12) x1.toNatClampNeg) ||| (h.2.1 (x0 + 23) x3_5.toNatClampNeg))) fun h11 =>
    gd (inb x3_5 384) <|
    gd (inb (((6 : Int32) * x1) + (h11.1 (x0 + 25) x3_5.toNatClampNeg)) 36) <|
    lt (sI h11 (x0 + 13) (((6 : Int32) * x1) + (h11.1 (x0 + 25) x3_5.toNatClampNeg)).toNatClampNeg (h11.1 x0 24)) fun h14 =>
    f11_endsAll_L80 K n x0 x1 x2 x3_5 (r2) (f11_endsAll_L12 K n x0 x1 r2 k) n (0 : Int32) h14)
    else (
    lt (x2 + (1 : Int32)) fun x2_15 =>
    f11_endsAll_L12 K n x0 x1 r2 k x2_15 h))
def f11_endsAll_L2 (K : Ly) (n : Nat) (x0 : Nat)   : Nat → Int32 → Hp → Option Hp
  | 0, _, _ => none
  | k + 1, x1, h =>
    if (h.1 x0 23) ≤ x1 then (
    some h)
    else (
    f11_endsAll_L12 K n x0 x1 (f11_endsAll_L2 K n x0  k) n (0 : Int32) h)
def f11_endsAll (K : Ly) (n : Nat) (o : Nat) (h : Hp) : Option Hp :=
    f11_endsAll_L2 K n o n (0 : Int32) h
set_option maxHeartbeats 4000000 in
set_option maxRecDepth 20000 in
theorem w11_endsAll_L80 {Γ : CT} {sp : Sp} {K : Ly} {sz n : Nat} {hf : Hp}  (X : Ok Γ sp prog_13_method_79_code Rc11 5 none 2 none sz K hf) (hK : LyOk K) (x0 : Nat) (x1 : Int32) (x2 : Int32) (x3 : Int32)  {r2 : Int32 → Hp → Option Hp} {r12 : Int32 → Hp → Option Hp} (px0 : K x0 = some (.inl 11)) (hr2 : ∀ (x1 : Int32) (h : Hp), r2 x1 h = some hf → Go Γ (0, 0) 2 [(0, .ref x0), (1, .int x1)] [] sz K h) (hr12 : ∀ (x2 : Int32) (h : Hp), r12 x2 h = some hf → Go Γ (0, 0) 12 [(0, .ref x0), (1, .int x1), (2, .int x2)] [] sz K h) : ∀ (k : Nat) (x4 : Int32) (h : Hp), f11_endsAll_L80 K n x0 x1 x2 x3 r2 r12 k x4 h = some hf → Go Γ (0, 0) 80 [(0, .ref x0), (1, .int x1), (2, .int x2), (3, .int x3), (4, .int x4)] [] sz K h := by
  intro k
  induction k with
  | zero => intro x4 h E; cases E
  | succ k ih =>
    intro x4 h E
    unfold f11_endsAll_L80 at E
    refine g_iload (n := 4) X (by decide +kernel) 4 rfl ?_
    refine g_bipush (n := 64) (x := (64 : Int32)) X (by decide +kernel) (by decide) ?_
    rcases it_E E with ⟨c16, E⟩ | ⟨c16, E⟩
    · refine g_icmp_ge_t (off := 42) (tgt := 126) X (by decide +kernel) (by decide) c16 ?_
      refine g_aload_n (n := 0) X (by decide +kernel) 0 rfl ?_
      refine g_iload_n (n := 1) X (by decide +kernel) 1 rfl ?_
      refine g_iload_n (n := 3) X (by decide +kernel) 3 rfl ?_
      obtain ⟨h18, e17, E⟩ := bp_E E
      refine g_callV0 (st := []) X [.int x1, .int x3] (by decide +kernel) ml11_459 px0 rfl rfl (by decide) (Nat.le_of_ble_eq_true rfl) (c11_removes hK x0 x1 x3 h px0 e17) ?_
      refine g_goto (off := 6) (tgt := 138) X (by decide +kernel) (by decide) ?_
      refine g_goto (off := -126) (tgt := 12) X (by decide +kernel) (by decide) ?_
      refine g_sub [0, 1, 2] rfl ?_
      exact hr12 x2 h18  E
    · refine g_icmp_ge_f (off := 42) (tgt := 126) X (by decide +kernel) (by decide) c16 ?_
      refine g_aload_n (n := 0) X (by decide +kernel) 0 rfl ?_
      refine g_getS X (by decide +kernel) fl11_75 px0 ?_
      refine g_iload_n (n := 3) X (by decide +kernel) 3 rfl ?_
      obtain ⟨c19, E⟩ := gd_E E
      refine g_lald X (by decide +kernel) (ly hK px0 fl11_75 rfl) c19 ?_
      refine g_iload (n := 4) X (by decide +kernel) 4 rfl ?_
      refine g_callS1 (st := []) X [.long (h.2.1 (x0 + 22) x3.toNatClampNeg), .int x4] (by decide +kernel) ml11_475 (by decide) (Nat.le_of_ble_eq_true rfl) (c11_hasL hK (h.2.1 (x0 + 22) x3.toNatClampNeg) x4 h ) ?_
      rcases it_E E with ⟨c20, E⟩ | ⟨c20, E⟩
      · refine g_if_eq_t (off := 22) (tgt := 120) X (by decide +kernel) (by decide) c20 ?_
        obtain ⟨x4_21, ex4_21, E⟩ := lt_E E
        refine s_iinc (i := 4) (n := 1) (y := x4_21) X (by decide +kernel) 4 rfl (by decide) ex4_21 (ls_next (by decide) (Or.inr rfl) (ls_next (by decide) (Or.inr rfl) (ls_next (by decide) (Or.inr rfl) (ls_next (by decide) (Or.inr rfl) (ls_here ls_end))))) ?_
        refine g_goto (off := -43) (tgt := 80) X (by decide +kernel) (by decide) ?_
        exact ih x4_21 h  E
      · refine g_if_eq_f (off := 22) (tgt := 120) X (by decide +kernel) (by decide) c20 ?_
        refine g_aload_n (n := 0) X (by decide +kernel) 0 rfl ?_
        refine g_getS X (by decide +kernel) fl11_129 px0 ?_
        refine g_iload (n := 4) X (by decide +kernel) 4 rfl ?_
        refine g_iconst (n := 3) (x := (3 : Int32)) X (by decide +kernel) (by decide) ?_
        obtain ⟨c22, E⟩ := gd_E E
        obtain ⟨h23, eh23, E⟩ := lt_E E
        refine g_iast X (by decide +kernel) (ly hK px0 fl11_129 rfl) c22 eh23 ?_
        refine g_aload_n (n := 0) X (by decide +kernel) 0 rfl ?_
        refine g_getS X (by decide +kernel) fl11_132 px0 ?_
        refine g_iload (n := 4) X (by decide +kernel) 4 rfl ?_
        refine g_aload_n (n := 0) X (by decide +kernel) 0 rfl ?_
        refine g_getI X (by decide +kernel) fl11_384 px0 ?_
        obtain ⟨c24, E⟩ := gd_E E
        obtain ⟨h25, eh25, E⟩ := lt_E E
        refine g_iast X (by decide +kernel) (ly hK px0 fl11_132 rfl) c24 eh25 ?_
        obtain ⟨x4_26, ex4_26, E⟩ := lt_E E
        refine s_iinc (i := 4) (n := 1) (y := x4_26) X (by decide +kernel) 4 rfl (by decide) ex4_26 (ls_next (by decide) (Or.inr rfl) (ls_next (by decide) (Or.inr rfl) (ls_next (by decide) (Or.inr rfl) (ls_next (by decide) (Or.inr rfl) (ls_here ls_end))))) ?_
        refine g_goto (off := -43) (tgt := 80) X (by decide +kernel) (by decide) ?_
        exact ih x4_26 h25  E
set_option maxHeartbeats 4000000 in
set_option maxRecDepth 20000 in
theorem w11_endsAll_L12 {Γ : CT} {sp : Sp} {K : Ly} {sz n : Nat} {hf : Hp}  (X : Ok Γ sp prog_13_method_79_code Rc11 5 none 2 none sz K hf) (hK : LyOk K) (x0 : Nat) (x1 : Int32)  {r2 : Int32 → Hp → Option Hp} (px0 : K x0 = some (.inl 11)) (hr2 : ∀ (x1 : Int32) (h : Hp), r2 x1 h = some hf → Go Γ (0, 0) 2 [(0, .ref x0), (1, .int x1)] [] sz K h) : ∀ (k : Nat) (x2 : Int32) (h : Hp), f11_endsAll_L12 K n x0 x1 r2 k x2 h = some hf → Go Γ (0, 0) 12 [(0, .ref x0), (1, .int x1), (2, .int x2)] [] sz K h := by
  intro k
  induction k with
  | zero => intro x2 h E; cases E
  | succ k ih =>
    intro x2 h E
    unfold f11_endsAll_L12 at E
    refine g_iload_n (n := 2) X (by decide +kernel) 2 rfl ?_
    refine g_aload_n (n := 0) X (by decide +kernel) 0 rfl ?_
    refine g_getS X (by decide +kernel) fl11_63 px0 ?_
    refine g_iload_n (n := 1) X (by decide +kernel) 1 rfl ?_
    obtain ⟨c2, E⟩ := gd_E E
    refine g_iald X (by decide +kernel) (ly hK px0 fl11_63 rfl) c2 ?_
    rcases it_E E with ⟨c3, E⟩ | ⟨c3, E⟩
    · refine g_icmp_ge_t (off := 122) (tgt := 141) X (by decide +kernel) (by decide) c3 ?_
      obtain ⟨x1_4, ex1_4, E⟩ := lt_E E
      refine s_iinc (i := 1) (n := 1) (y := x1_4) X (by decide +kernel) 1 rfl (by decide) ex1_4 (ls_next (by decide) (Or.inr rfl) (ls_here (ls_next (by decide) (Or.inr rfl) ls_end))) ?_
      refine g_goto (off := -142) (tgt := 2) X (by decide +kernel) (by decide) ?_
      refine g_sub [0, 1] rfl ?_
      exact hr2 x1_4 h  E
    · refine g_icmp_ge_f (off := 122) (tgt := 141) X (by decide +kernel) (by decide) c3 ?_
      refine g_bipush (n := 64) (x := (64 : Int32)) X (by decide +kernel) (by decide) ?_
      refine g_iload_n (n := 1) X (by decide +kernel) 1 rfl ?_
      refine g_imul X (by decide +kernel) ?_
      refine g_iload_n (n := 2) X (by decide +kernel) 2 rfl ?_
      refine g_iadd X (by decide +kernel) ?_
      obtain ⟨x3_5, ex3_5, E⟩ := lt_E E
      refine s_istore_n (n := 3) (i := 3) X (by decide +kernel) rfl (by decide) ex3_5 (ls_next (by decide) (Or.inr rfl) (ls_next (by decide) (Or.inr rfl) (ls_next (by decide) (Or.inr rfl) (ls_ins ls_end)))) ?_
      refine g_aload_n (n := 0) X (by decide +kernel) 0 rfl ?_
      refine g_getS X (by decide +kernel) fl11_93 px0 ?_
      refine g_iload_n (n := 3) X (by decide +kernel) 3 rfl ?_
      obtain ⟨c6, E⟩ := gd_E E
      refine g_iald X (by decide +kernel) (ly hK px0 fl11_93 rfl) c6 ?_
      refine g_aload_n (n := 0) X (by decide +kernel) 0 rfl ?_
      refine g_getI X (by decide +kernel) fl11_384 px0 ?_
      rcases it_E E with ⟨c7, E⟩ | ⟨c7, E⟩
      · refine g_icmp_ne_f (off := 96) (tgt := 135) X (by decide +kernel) (by decide) (fun z => z c7) ?_
        refine g_aload_n (n := 0) X (by decide +kernel) 0 rfl ?_
        refine g_getS X (by decide +kernel) fl11_44 px0 ?_
        refine g_iload_n (n := 1) X (by decide +kernel) 1 rfl ?_
        refine g_dup2 X (by decide +kernel) rfl rfl ?_
        obtain ⟨c8, E⟩ := gd_E E
        refine g_lald X (by decide +kernel) (ly hK px0 fl11_44 rfl) c8 ?_
        refine g_aload_n (n := 0) X (by decide +kernel) 0 rfl ?_
        refine g_getS X (by decide +kernel) fl11_78 px0 ?_
        refine g_iload_n (n := 3) X (by decide +kernel) 3 rfl ?_
        obtain ⟨c9, E⟩ := gd_E E
        refine g_lald X (by decide +kernel) (ly hK px0 fl11_78 rfl) c9 ?_
        refine g_lor X (by decide +kernel) ?_
        obtain ⟨c10, E⟩ := gd_E E
        obtain ⟨h11, eh11, E⟩ := lt_E E
        refine g_last X (by decide +kernel) (ly hK px0 fl11_44 rfl) c10 eh11 ?_
        refine g_aload_n (n := 0) X (by decide +kernel) 0 rfl ?_
        refine g_getS X (by decide +kernel) fl11_48 px0 ?_
        refine g_bipush (n := 6) (x := (6 : Int32)) X (by decide +kernel) (by decide) ?_
        refine g_iload_n (n := 1) X (by decide +kernel) 1 rfl ?_
        refine g_imul X (by decide +kernel) ?_
        refine g_aload_n (n := 0) X (by decide +kernel) 0 rfl ?_
        refine g_getS X (by decide +kernel) fl11_84 px0 ?_
        refine g_iload_n (n := 3) X (by decide +kernel) 3 rfl ?_
        obtain ⟨c12, E⟩ := gd_E E
        refine g_iald X (by decide +kernel) (ly hK px0 fl11_84 rfl) c12 ?_
        refine g_iadd X (by decide +kernel) ?_
        refine g_aload_n (n := 0) X (by decide +kernel) 0 rfl ?_
        refine g_getI X (by decide +kernel) fl11_342 px0 ?_
        obtain ⟨c13, E⟩ := gd_E E
        obtain ⟨h14, eh14, E⟩ := lt_E E
        refine g_iast X (by decide +kernel) (ly hK px0 fl11_48 rfl) c13 eh14 ?_
        refine g_iconst (n := 0) (x := (0 : Int32)) X (by decide +kernel) (by decide) ?_
        refine s_istore (i := 4) X (by decide +kernel) (by decide) rfl (ls_next (by decide) (Or.inr rfl) (ls_next (by decide) (Or.inr rfl) (ls_next (by decide) (Or.inr rfl) (ls_next (by decide) (Or.inr rfl) (ls_ins ls_end))))) ?_
        exact w11_endsAll_L80 X hK x0 x1 x2 x3_5 px0 hr2 ih n (0 : Int32) h14 E
      · refine g_icmp_ne_t (off := 96) (tgt := 135) X (by decide +kernel) (by decide) c7 ?_
        obtain ⟨x2_15, ex2_15, E⟩ := lt_E E
        refine s_iinc (i := 2) (n := 1) (y := x2_15) X (by decide +kernel) 2 rfl (by decide) ex2_15 (ls_next (by decide) (Or.inr rfl) (ls_next (by decide) (Or.inr rfl) (ls_here (ls_next (by decide) (Or.inr rfl) ls_end)))) ?_
        refine g_goto (off := -126) (tgt := 12) X (by decide +kernel) (by decide) ?_
        refine g_sub [0, 1, 2] rfl ?_
        exact ih x2_15 h  E
set_option maxHeartbeats 4000000 in
set_option maxRecDepth 20000 in
theorem w11_endsAll_L2 {Γ : CT} {sp : Sp} {K : Ly} {sz n : Nat} {hf : Hp}  (X : Ok Γ sp prog_13_method_79_code Rc11 5 none 2 none sz K hf) (hK : LyOk K) (x0 : Nat)  (px0 : K x0 = some (.inl 11))  : ∀ (k : Nat) (x1 : Int32) (h : Hp), f11_endsAll_L2 K n x0  k x1 h = some hf → Go Γ (0, 0) 2 [(0, .ref x0), (1, .int x1)] [] sz K h := by
  intro k
  induction k with
  | zero => intro x1 h E; cases E
  | succ k ih =>
    intro x1 h E
    unfold f11_endsAll_L2 at E
    refine g_iload_n (n := 1) X (by decide +kernel) 1 rfl ?_
    refine g_aload_n (n := 0) X (by decide +kernel) 0 rfl ?_
    refine g_getI X (by decide +kernel) fl11_339 px0 ?_
    rcases it_E E with ⟨c1, E⟩ | ⟨c1, E⟩
    · refine g_icmp_ge_t (off := 140) (tgt := 147) X (by decide +kernel) (by decide) c1 ?_
      obtain rfl := Option.some.inj E
      exact g_return X (by decide +kernel)
    · refine g_icmp_ge_f (off := 140) (tgt := 147) X (by decide +kernel) (by decide) c1 ?_
      refine g_iconst (n := 0) (x := (0 : Int32)) X (by decide +kernel) (by decide) ?_
      refine s_istore_n (n := 2) (i := 2) X (by decide +kernel) rfl (by decide) rfl (ls_next (by decide) (Or.inr rfl) (ls_next (by decide) (Or.inr rfl) (ls_ins ls_end))) ?_
      exact w11_endsAll_L12 X hK x0 x1 px0 ih n (0 : Int32) h E
set_option maxHeartbeats 4000000 in
set_option maxRecDepth 20000 in
theorem c11_endsAll {sp : Sp} {K : Ly} {sz n : Nat} (hK : LyOk K) (o : Nat) (h : Hp) (ho : K o = some (.inl 11)) {hf : Hp} (E : f11_endsAll K n o h = some hf) : Con sp y11_endsAll prog_13_method_79_code 5 none 2 0 0 [.ref o] sz K h none sz K hf := by
  refine Con.of (by decide) (Nat.le_of_ble_eq_true rfl) (fun Γ X _ => ?_)
  show Go Γ (0, 0) 0 [(0, .ref o)] [] sz K h
  unfold f11_endsAll at E
  refine g_iconst (n := 0) (x := (0 : Int32)) X (by decide +kernel) (by decide) ?_
  refine s_istore_n (n := 1) (i := 1) X (by decide +kernel) rfl (by decide) rfl (ls_next (by decide) (Or.inr rfl) (ls_ins ls_end)) ?_
  exact w11_endsAll_L2 X hK o ho n (0 : Int32) h E
-- AskedNamesModel.comes
def f11_comes (K : Ly) (n : Nat) (o : Nat) (a1 : Int32) (h : Hp) : Option Hp :=
    gd (inb a1 4096) <|
    lt (sI h o 71 (h.1 (o + 36) a1.toNatClampNeg)) fun h2 =>
    gd (inb a1 4096) <|
    lt (sI h2 o 72 (h2.1 (o + 37) a1.toNatClampNeg)) fun h4 =>
    gd (inb a1 4096) <|
    lt (sI h4 o 73 (h4.1 (o + 38) a1.toNatClampNeg)) fun h6 =>
    gd (inb a1 4096) <|
    lt (sI h6 o 74 (h6.1 (o + 39) a1.toNatClampNeg)) fun h8 =>
    gd (inb a1 4096) <|
    if (h8.1 (o + 29) a1.toNatClampNeg) = 0 then (
    gd (inb a1 4096) <|
    gd (inb a1 4096) <|
    gd (inb a1 4096) <|
    gd (inb a1 4096) <|
    gd (inb a1 4096) <|
    bp (f11_interest K n o (h8.1 (o + 31) a1.toNatClampNeg) (h8.1 (o + 30) a1.toNatClampNeg) (h8.1 (o + 32) a1.toNatClampNeg) (h8.1 (o + 33) a1.toNatClampNeg) (h8.1 (o + 34) a1.toNatClampNeg) h8) fun h17 =>
    some h17)
    else (
    gd (inb a1 4096) <|
    if (h8.1 (o + 29) a1.toNatClampNeg) = (1 : Int32) then (
    gd (inb a1 4096) <|
    gd (inb a1 4096) <|
    gd (inb a1 4096) <|
    bp (f11_dataCome K n o (h8.1 (o + 31) a1.toNatClampNeg) (h8.1 (o + 30) a1.toNatClampNeg) (h8.1 (o + 32) a1.toNatClampNeg) h8) fun h24 =>
    some h24)
    else (
    gd (inb a1 4096) <|
    gd (inb a1 4096) <|
    gd (inb a1 4096) <|
    gd (inb a1 4096) <|
    bp (f11_nackComes K n o (h8.1 (o + 31) a1.toNatClampNeg) (h8.1 (o + 30) a1.toNatClampNeg) (h8.1 (o + 32) a1.toNatClampNeg) (h8.1 (o + 33) a1.toNatClampNeg) h8) fun h30 =>
    some h30))
set_option maxHeartbeats 4000000 in
set_option maxRecDepth 20000 in
theorem c11_comes {sp : Sp} {K : Ly} {sz n : Nat} (hK : LyOk K) (o : Nat) (a1 : Int32) (h : Hp) (ho : K o = some (.inl 11)) {hf : Hp} (E : f11_comes K n o a1 h = some hf) : Con sp y11_comes prog_13_method_80_code 2 none 8 0 0 [.ref o, .int a1] sz K h none sz K hf := by
  refine Con.of (by decide) (Nat.le_of_ble_eq_true rfl) (fun Γ X _ => ?_)
  show Go Γ (0, 0) 0 [(0, .ref o), (1, .int a1)] [] sz K h
  unfold f11_comes at E
  refine g_aload_n (n := 0) X (by decide +kernel) 0 rfl ?_
  refine g_aload_n (n := 0) X (by decide +kernel) 0 rfl ?_
  refine g_getS X (by decide +kernel) fl11_117 ho ?_
  refine g_iload_n (n := 1) X (by decide +kernel) 1 rfl ?_
  obtain ⟨c1, E⟩ := gd_E E
  refine g_iald X (by decide +kernel) (ly hK ho fl11_117 rfl) c1 ?_
  obtain ⟨h2, eh2, E⟩ := lt_E E
  refine g_putI X (by decide +kernel) fp11_411 ho eh2 ?_
  refine g_aload_n (n := 0) X (by decide +kernel) 0 rfl ?_
  refine g_aload_n (n := 0) X (by decide +kernel) 0 rfl ?_
  refine g_getS X (by decide +kernel) fl11_120 ho ?_
  refine g_iload_n (n := 1) X (by decide +kernel) 1 rfl ?_
  obtain ⟨c3, E⟩ := gd_E E
  refine g_iald X (by decide +kernel) (ly hK ho fl11_120 rfl) c3 ?_
  obtain ⟨h4, eh4, E⟩ := lt_E E
  refine g_putI X (by decide +kernel) fp11_414 ho eh4 ?_
  refine g_aload_n (n := 0) X (by decide +kernel) 0 rfl ?_
  refine g_aload_n (n := 0) X (by decide +kernel) 0 rfl ?_
  refine g_getS X (by decide +kernel) fl11_123 ho ?_
  refine g_iload_n (n := 1) X (by decide +kernel) 1 rfl ?_
  obtain ⟨c5, E⟩ := gd_E E
  refine g_iald X (by decide +kernel) (ly hK ho fl11_123 rfl) c5 ?_
  obtain ⟨h6, eh6, E⟩ := lt_E E
  refine g_putI X (by decide +kernel) fp11_417 ho eh6 ?_
  refine g_aload_n (n := 0) X (by decide +kernel) 0 rfl ?_
  refine g_aload_n (n := 0) X (by decide +kernel) 0 rfl ?_
  refine g_getS X (by decide +kernel) fl11_126 ho ?_
  refine g_iload_n (n := 1) X (by decide +kernel) 1 rfl ?_
  obtain ⟨c7, E⟩ := gd_E E
  refine g_iald X (by decide +kernel) (ly hK ho fl11_126 rfl) c7 ?_
  obtain ⟨h8, eh8, E⟩ := lt_E E
  refine g_putI X (by decide +kernel) fp11_420 ho eh8 ?_
  refine g_aload_n (n := 0) X (by decide +kernel) 0 rfl ?_
  refine g_getS X (by decide +kernel) fl11_96 ho ?_
  refine g_iload_n (n := 1) X (by decide +kernel) 1 rfl ?_
  obtain ⟨c9, E⟩ := gd_E E
  refine g_iald X (by decide +kernel) (ly hK ho fl11_96 rfl) c9 ?_
  rcases it_E E with ⟨c10, E⟩ | ⟨c10, E⟩
  · refine g_if_ne_f (off := 40) (tgt := 86) X (by decide +kernel) (by decide) (fun z => z c10) ?_
    refine g_aload_n (n := 0) X (by decide +kernel) 0 rfl ?_
    refine g_aload_n (n := 0) X (by decide +kernel) 0 rfl ?_
    refine g_getS X (by decide +kernel) fl11_102 ho ?_
    refine g_iload_n (n := 1) X (by decide +kernel) 1 rfl ?_
    obtain ⟨c11, E⟩ := gd_E E
    refine g_iald X (by decide +kernel) (ly hK ho fl11_102 rfl) c11 ?_
    refine g_aload_n (n := 0) X (by decide +kernel) 0 rfl ?_
    refine g_getS X (by decide +kernel) fl11_99 ho ?_
    refine g_iload_n (n := 1) X (by decide +kernel) 1 rfl ?_
    obtain ⟨c12, E⟩ := gd_E E
    refine g_iald X (by decide +kernel) (ly hK ho fl11_99 rfl) c12 ?_
    refine g_aload_n (n := 0) X (by decide +kernel) 0 rfl ?_
    refine g_getS X (by decide +kernel) fl11_105 ho ?_
    refine g_iload_n (n := 1) X (by decide +kernel) 1 rfl ?_
    obtain ⟨c13, E⟩ := gd_E E
    refine g_iald X (by decide +kernel) (ly hK ho fl11_105 rfl) c13 ?_
    refine g_aload_n (n := 0) X (by decide +kernel) 0 rfl ?_
    refine g_getS X (by decide +kernel) fl11_108 ho ?_
    refine g_iload_n (n := 1) X (by decide +kernel) 1 rfl ?_
    obtain ⟨c14, E⟩ := gd_E E
    refine g_iald X (by decide +kernel) (ly hK ho fl11_108 rfl) c14 ?_
    refine g_aload_n (n := 0) X (by decide +kernel) 0 rfl ?_
    refine g_getS X (by decide +kernel) fl11_111 ho ?_
    refine g_iload_n (n := 1) X (by decide +kernel) 1 rfl ?_
    obtain ⟨c15, E⟩ := gd_E E
    refine g_iald X (by decide +kernel) (ly hK ho fl11_111 rfl) c15 ?_
    obtain ⟨h17, e16, E⟩ := bp_E E
    refine g_callV0 (st := []) X [.int (h8.1 (o + 31) a1.toNatClampNeg), .int (h8.1 (o + 30) a1.toNatClampNeg), .int (h8.1 (o + 32) a1.toNatClampNeg), .int (h8.1 (o + 33) a1.toNatClampNeg), .int (h8.1 (o + 34) a1.toNatClampNeg)] (by decide +kernel) ml11_497 ho rfl rfl (by decide) (Nat.le_of_ble_eq_true rfl) (c11_interest hK o (h8.1 (o + 31) a1.toNatClampNeg) (h8.1 (o + 30) a1.toNatClampNeg) (h8.1 (o + 32) a1.toNatClampNeg) (h8.1 (o + 33) a1.toNatClampNeg) (h8.1 (o + 34) a1.toNatClampNeg) h8 ho e16) ?_
    refine g_goto (off := 66) (tgt := 149) X (by decide +kernel) (by decide) ?_
    obtain rfl := Option.some.inj E
    exact g_return X (by decide +kernel)
  · refine g_if_ne_t (off := 40) (tgt := 86) X (by decide +kernel) (by decide) c10 ?_
    refine g_aload_n (n := 0) X (by decide +kernel) 0 rfl ?_
    refine g_getS X (by decide +kernel) fl11_96 ho ?_
    refine g_iload_n (n := 1) X (by decide +kernel) 1 rfl ?_
    obtain ⟨c18, E⟩ := gd_E E
    refine g_iald X (by decide +kernel) (ly hK ho fl11_96 rfl) c18 ?_
    refine g_iconst (n := 1) (x := (1 : Int32)) X (by decide +kernel) (by decide) ?_
    rcases it_E E with ⟨c19, E⟩ | ⟨c19, E⟩
    · refine g_icmp_ne_f (off := 28) (tgt := 121) X (by decide +kernel) (by decide) (fun z => z c19) ?_
      refine g_aload_n (n := 0) X (by decide +kernel) 0 rfl ?_
      refine g_aload_n (n := 0) X (by decide +kernel) 0 rfl ?_
      refine g_getS X (by decide +kernel) fl11_102 ho ?_
      refine g_iload_n (n := 1) X (by decide +kernel) 1 rfl ?_
      obtain ⟨c20, E⟩ := gd_E E
      refine g_iald X (by decide +kernel) (ly hK ho fl11_102 rfl) c20 ?_
      refine g_aload_n (n := 0) X (by decide +kernel) 0 rfl ?_
      refine g_getS X (by decide +kernel) fl11_99 ho ?_
      refine g_iload_n (n := 1) X (by decide +kernel) 1 rfl ?_
      obtain ⟨c21, E⟩ := gd_E E
      refine g_iald X (by decide +kernel) (ly hK ho fl11_99 rfl) c21 ?_
      refine g_aload_n (n := 0) X (by decide +kernel) 0 rfl ?_
      refine g_getS X (by decide +kernel) fl11_105 ho ?_
      refine g_iload_n (n := 1) X (by decide +kernel) 1 rfl ?_
      obtain ⟨c22, E⟩ := gd_E E
      refine g_iald X (by decide +kernel) (ly hK ho fl11_105 rfl) c22 ?_
      obtain ⟨h24, e23, E⟩ := bp_E E
      refine g_callV0 (st := []) X [.int (h8.1 (o + 31) a1.toNatClampNeg), .int (h8.1 (o + 30) a1.toNatClampNeg), .int (h8.1 (o + 32) a1.toNatClampNeg)] (by decide +kernel) ml11_500 ho rfl rfl (by decide) (Nat.le_of_ble_eq_true rfl) (c11_dataCome hK o (h8.1 (o + 31) a1.toNatClampNeg) (h8.1 (o + 30) a1.toNatClampNeg) (h8.1 (o + 32) a1.toNatClampNeg) h8 ho e23) ?_
      refine g_goto (off := 31) (tgt := 149) X (by decide +kernel) (by decide) ?_
      obtain rfl := Option.some.inj E
      exact g_return X (by decide +kernel)
    · refine g_icmp_ne_t (off := 28) (tgt := 121) X (by decide +kernel) (by decide) c19 ?_
      refine g_aload_n (n := 0) X (by decide +kernel) 0 rfl ?_
      refine g_aload_n (n := 0) X (by decide +kernel) 0 rfl ?_
      refine g_getS X (by decide +kernel) fl11_102 ho ?_
      refine g_iload_n (n := 1) X (by decide +kernel) 1 rfl ?_
      obtain ⟨c25, E⟩ := gd_E E
      refine g_iald X (by decide +kernel) (ly hK ho fl11_102 rfl) c25 ?_
      refine g_aload_n (n := 0) X (by decide +kernel) 0 rfl ?_
      refine g_getS X (by decide +kernel) fl11_99 ho ?_
      refine g_iload_n (n := 1) X (by decide +kernel) 1 rfl ?_
      obtain ⟨c26, E⟩ := gd_E E
      refine g_iald X (by decide +kernel) (ly hK ho fl11_99 rfl) c26 ?_
      refine g_aload_n (n := 0) X (by decide +kernel) 0 rfl ?_
      refine g_getS X (by decide +kernel) fl11_105 ho ?_
      refine g_iload_n (n := 1) X (by decide +kernel) 1 rfl ?_
      obtain ⟨c27, E⟩ := gd_E E
      refine g_iald X (by decide +kernel) (ly hK ho fl11_105 rfl) c27 ?_
      refine g_aload_n (n := 0) X (by decide +kernel) 0 rfl ?_
      refine g_getS X (by decide +kernel) fl11_108 ho ?_
      refine g_iload_n (n := 1) X (by decide +kernel) 1 rfl ?_
      obtain ⟨c28, E⟩ := gd_E E
      refine g_iald X (by decide +kernel) (ly hK ho fl11_108 rfl) c28 ?_
      obtain ⟨h30, e29, E⟩ := bp_E E
      refine g_callV0 (st := []) X [.int (h8.1 (o + 31) a1.toNatClampNeg), .int (h8.1 (o + 30) a1.toNatClampNeg), .int (h8.1 (o + 32) a1.toNatClampNeg), .int (h8.1 (o + 33) a1.toNatClampNeg)] (by decide +kernel) ml11_503 ho rfl rfl (by decide) (Nat.le_of_ble_eq_true rfl) (c11_nackComes hK o (h8.1 (o + 31) a1.toNatClampNeg) (h8.1 (o + 30) a1.toNatClampNeg) (h8.1 (o + 32) a1.toNatClampNeg) (h8.1 (o + 33) a1.toNatClampNeg) h8 ho e29) ?_
      obtain rfl := Option.some.inj E
      exact g_return X (by decide +kernel)
