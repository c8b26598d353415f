-- AskedNames.feed
def f0_feed (K : Ly) (n : Nat) (o : Nat) (a1 : Int32) (a2 : Int32) (a3 : Int32) (a4 : Int32) (a5 : Int32) (h : Hp) : Option (Int32 × Hp) :=
    if (h.1 (o + 1) 1) ≤ (580 : Int32) then (
    bp (f1_append K n (o + 1) a1 h) fun h3 =>
    bp (f1_append K n (o + 1) a2 h3) fun h5 =>
    bp (f1_append K n (o + 1) a3 h5) fun h7 =>
    bp (f1_append K n (o + 1) a4 h7) fun h9 =>
    bp (f1_append K n (o + 1) a5 h9) fun h11 =>
    some ((h11.1 (o + 1) 1), h11))
    else (
    some ((-1 : Int32), h))
set_option maxHeartbeats 4000000 in
set_option maxRecDepth 20000 in
theorem c0_feed {sp : Sp} {K : Ly} {sz n : Nat} (hK : LyOk K) (o : Nat) (a1 : Int32) (a2 : Int32) (a3 : Int32) (a4 : Int32) (a5 : Int32) (h : Hp) (ho : K o = some (.inl 0)) {v : Int32} {hf : Hp} (E : f0_feed K n o a1 a2 a3 a4 a5 h = some (v, hf)) : Con sp y0_feed prog_1_method_2_code 6 (some (.int)) 2 0 0 [.ref o, .int a1, .int a2, .int a3, .int a4, .int a5] sz K h (some (.int v)) sz K hf := by
  refine Con.of (by decide) (Nat.le_of_ble_eq_true rfl) (fun Γ X _ => ?_)
  show Go Γ (0, 0) 0 [(0, .ref o), (1, .int a1), (2, .int a2), (3, .int a3), (4, .int a4), (5, .int a5)] [] sz K h
  unfold f0_feed at E
  refine g_aload_n (n := 0) X (by decide +kernel) 0 rfl ?_
  refine g_getS X (by decide +kernel) fl0_10 ho ?_
  refine g_getI X (by decide +kernel) fl0_48 (ly hK ho fl0_10 rfl) ?_
  refine g_sipush (n := 580) (x := (580 : Int32)) X (by decide +kernel) (by decide) ?_
  rcases it_E E with ⟨c1, E⟩ | ⟨c1, E⟩
  · refine g_icmp_le_t (off := 5) (tgt := 15) X (by decide +kernel) (by decide) c1 ?_
    refine g_aload_n (n := 0) X (by decide +kernel) 0 rfl ?_
    refine g_getS X (by decide +kernel) fl0_10 ho ?_
    refine g_iload_n (n := 1) X (by decide +kernel) 1 rfl ?_
    obtain ⟨h3, e2, E⟩ := bp_E E
    refine g_callV0 (st := []) X [.int a1] (by decide +kernel) ml0_52 (ly hK ho fl0_10 rfl) rfl rfl (by decide) (Nat.le_of_ble_eq_true rfl) (c1_append hK (o + 1) a1 h (ly hK ho fl0_10 rfl) e2) ?_
    refine g_aload_n (n := 0) X (by decide +kernel) 0 rfl ?_
    refine g_getS X (by decide +kernel) fl0_10 ho ?_
    refine g_iload_n (n := 2) X (by decide +kernel) 2 rfl ?_
    obtain ⟨h5, e4, E⟩ := bp_E E
    refine g_callV0 (st := []) X [.int a2] (by decide +kernel) ml0_52 (ly hK ho fl0_10 rfl) rfl rfl (by decide) (Nat.le_of_ble_eq_true rfl) (c1_append hK (o + 1) a2 h3 (ly hK ho fl0_10 rfl) e4) ?_
    refine g_aload_n (n := 0) X (by decide +kernel) 0 rfl ?_
    refine g_getS X (by decide +kernel) fl0_10 ho ?_
    refine g_iload_n (n := 3) X (by decide +kernel) 3 rfl ?_
    obtain ⟨h7, e6, E⟩ := bp_E E
    refine g_callV0 (st := []) X [.int a3] (by decide +kernel) ml0_52 (ly hK ho fl0_10 rfl) rfl rfl (by decide) (Nat.le_of_ble_eq_true rfl) (c1_append hK (o + 1) a3 h5 (ly hK ho fl0_10 rfl) e6) ?_
    refine g_aload_n (n := 0) X (by decide +kernel) 0 rfl ?_
    refine g_getS X (by decide +kernel) fl0_10 ho ?_
    refine g_iload (n := 4) X (by decide +kernel) 4 rfl ?_
    obtain ⟨h9, e8, E⟩ := bp_E E
    refine g_callV0 (st := []) X [.int a4] (by decide +kernel) ml0_52 (ly hK ho fl0_10 rfl) rfl rfl (by decide) (Nat.le_of_ble_eq_true rfl) (c1_append hK (o + 1) a4 h7 (ly hK ho fl0_10 rfl) e8) ?_
    refine g_aload_n (n := 0) X (by decide +kernel) 0 rfl ?_
    refine g_getS X (by decide +kernel) fl0_10 ho ?_
    refine g_iload (n := 5) X (by decide +kernel) 5 rfl ?_
    obtain ⟨h11, e10, E⟩ := bp_E E
    refine g_callV0 (st := []) X [.int a5] (by decide +kernel) ml0_52 (ly hK ho fl0_10 rfl) rfl rfl (by decide) (Nat.le_of_ble_eq_true rfl) (c1_append hK (o + 1) a5 h9 (ly hK ho fl0_10 rfl) e10) ?_
    refine g_aload_n (n := 0) X (by decide +kernel) 0 rfl ?_
    refine g_getS X (by decide +kernel) fl0_10 ho ?_
    refine g_getI X (by decide +kernel) fl0_48 (ly hK ho fl0_10 rfl) ?_
    obtain ⟨rfl, rfl⟩ := rt_E E
    exact g_ireturn X (by decide +kernel)
  · refine g_icmp_le_f (off := 5) (tgt := 15) X (by decide +kernel) (by decide) c1 ?_
    refine g_iconst (n := -1) (x := (-1 : Int32)) X (by decide +kernel) (by decide) ?_
    obtain ⟨rfl, rfl⟩ := rt_E E
    exact g_ireturn X (by decide +kernel)
-- AskedNames.end
def f0_end (K : Ly) (n : Nat) (o : Nat) (a1 : Int32) (h : Hp) : Option (Int32 × Hp) :=
    if a1 < 0 then (
    some ((-1 : Int32), h))
    else (
    if a1 ≤ (h.1 (o + 1) 1) then (
    lt (sI h (o + 1) 1 a1) fun h3 =>
    some (a1, h3))
    else (
    some ((-1 : Int32), h)))
set_option maxHeartbeats 4000000 in
set_option maxRecDepth 20000 in
theorem c0_end {sp : Sp} {K : Ly} {sz n : Nat} (hK : LyOk K) (o : Nat) (a1 : Int32) (h : Hp) (ho : K o = some (.inl 0)) {v : Int32} {hf : Hp} (E : f0_end K n o a1 h = some (v, hf)) : Con sp y0_end prog_1_method_3_code 2 (some (.int)) 1 0 0 [.ref o, .int a1] sz K h (some (.int v)) sz K hf := by
  refine Con.of (by decide) (Nat.le_of_ble_eq_true rfl) (fun Γ X _ => ?_)
  show Go Γ (0, 0) 0 [(0, .ref o), (1, .int a1)] [] sz K h
  unfold f0_end at E
  refine g_iload_n (n := 1) X (by decide +kernel) 1 rfl ?_
  rcases it_E E with ⟨c1, E⟩ | ⟨c1, E⟩
  · refine g_if_lt_t (off := 14) (tgt := 15) X (by decide +kernel) (by decide) c1 ?_
    refine g_iconst (n := -1) (x := (-1 : Int32)) X (by decide +kernel) (by decide) ?_
    obtain ⟨rfl, rfl⟩ := rt_E E
    exact g_ireturn X (by decide +kernel)
  · refine g_if_lt_f (off := 14) (tgt := 15) X (by decide +kernel) (by decide) c1 ?_
    refine g_iload_n (n := 1) X (by decide +kernel) 1 rfl ?_
    refine g_aload_n (n := 0) X (by decide +kernel) 0 rfl ?_
    refine g_getS X (by decide +kernel) fl0_10 ho ?_
    refine g_getI X (by decide +kernel) fl0_48 (ly hK ho fl0_10 rfl) ?_
    rcases it_E E with ⟨c2, E⟩ | ⟨c2, E⟩
    · refine g_icmp_le_t (off := 5) (tgt := 17) X (by decide +kernel) (by decide) c2 ?_
      refine g_aload_n (n := 0) X (by decide +kernel) 0 rfl ?_
      refine g_getS X (by decide +kernel) fl0_10 ho ?_
      refine g_iload_n (n := 1) X (by decide +kernel) 1 rfl ?_
      obtain ⟨h3, eh3, E⟩ := lt_E E
      refine g_putI X (by decide +kernel) fp0_48 (ly hK ho fl0_10 rfl) eh3 ?_
      refine g_iload_n (n := 1) X (by decide +kernel) 1 rfl ?_
      obtain ⟨rfl, rfl⟩ := rt_E E
      exact g_ireturn X (by decide +kernel)
    · refine g_icmp_le_f (off := 5) (tgt := 17) X (by decide +kernel) (by decide) c2 ?_
      refine g_iconst (n := -1) (x := (-1 : Int32)) X (by decide +kernel) (by decide) ?_
      obtain ⟨rfl, rfl⟩ := rt_E E
      exact g_ireturn X (by decide +kernel)
-- AskedNames.fault
def f0_fault (o : Nat) (a1 : Int32) (h : Hp) : Int32 :=
    if a1 = 0 then (
    (h.1 (o + 1) 2))
    else (
    (if a1 = (1 : Int32) then (h.1 (o + 1) 3) else (-1 : Int32)))
set_option maxHeartbeats 4000000 in
set_option maxRecDepth 20000 in
theorem c0_fault {sp : Sp} {K : Ly} {sz : Nat} (hK : LyOk K) (o : Nat) (a1 : Int32) (h : Hp) (ho : K o = some (.inl 0)) : Con sp y0_fault prog_1_method_5_code 2 (some (.int)) 1 0 0 [.ref o, .int a1] sz K h (some (.int (f0_fault o a1 h))) sz K h := by
  obtain ⟨v, E⟩ : ∃ v, f0_fault o a1 h = v := ⟨_, rfl⟩
  rw [E]
  refine Con.of (by decide) (Nat.le_of_ble_eq_true rfl) (fun Γ X _ => ?_)
  show Go Γ (0, 0) 0 [(0, .ref o), (1, .int a1)] [] sz K h
  unfold f0_fault at E
  refine g_iload_n (n := 1) X (by decide +kernel) 1 rfl ?_
  rcases it_E E with ⟨c1, E⟩ | ⟨c1, E⟩
  · refine g_if_ne_f (off := 11) (tgt := 12) X (by decide +kernel) (by decide) (fun z => z c1) ?_
    refine g_aload_n (n := 0) X (by decide +kernel) 0 rfl ?_
    refine g_getS X (by decide +kernel) fl0_10 ho ?_
    refine g_getI X (by decide +kernel) fl0_56 (ly hK ho fl0_10 rfl) ?_
    subst E
    exact g_ireturn X (by decide +kernel)
  · refine g_if_ne_t (off := 11) (tgt := 12) X (by decide +kernel) (by decide) c1 ?_
    refine g_iload_n (n := 1) X (by decide +kernel) 1 rfl ?_
    refine g_iconst (n := 1) (x := (1 : Int32)) X (by decide +kernel) (by decide) ?_
    have hJ : Go Γ (0, 0) 28 [] [.int (if a1 = (1 : Int32) then (h.1 (o + 1) 3) else (-1 : Int32))] sz K h := by
      subst E
      exact g_ireturn X (by decide +kernel)
    clear E
    by_cases c2 : a1 = (1 : Int32)
    · rw [if_pos c2] at hJ
      refine g_icmp_ne_f (off := 13) (tgt := 27) X (by decide +kernel) (by decide) (fun z => z c2) ?_
      refine g_aload_n (n := 0) X (by decide +kernel) 0 rfl ?_
      refine g_getS X (by decide +kernel) fl0_10 ho ?_
      refine g_getI X (by decide +kernel) fl0_59 (ly hK ho fl0_10 rfl) ?_
      refine g_goto (off := 4) (tgt := 28) X (by decide +kernel) (by decide) ?_
      refine g_sub [] rfl ?_
      exact hJ
    · rw [if_neg c2] at hJ
      refine g_icmp_ne_t (off := 13) (tgt := 27) X (by decide +kernel) (by decide) c2 ?_
      refine g_iconst (n := -1) (x := (-1 : Int32)) X (by decide +kernel) (by decide) ?_
      refine g_sub [] rfl ?_
      exact hJ
-- AskedNames.netAt
def f0_netAt_J17 (K : Ly) (n : Nat)   (h : Hp) : Option (Option Nat) :=
    some none
def f0_netAt (K : Ly) (n : Nat) (o : Nat) (a1 : Int32) (h : Hp) : Option (Option Nat) :=
    if a1 < 0 then (
    f0_netAt_J17 K n h)
    else (
    if a1 < (h.1 ((o + 1) + 2) (0 : Int32).toNatClampNeg) then (
    gd (inb a1 2) <|
    ob (h.2.2 ((o + 1) + 3) a1.toNatClampNeg) K 2 fun o4 =>
    some (some o4))
    else (
    f0_netAt_J17 K n h))
set_option maxHeartbeats 4000000 in
set_option maxRecDepth 20000 in
theorem w0_netAt_J17 {Γ : CT} {sp : Sp} {K : Ly} {sz n : Nat} {v : Option Nat} {h : Hp}   (X : Ok Γ sp prog_1_method_26_code Rc0 2 (some (.object "AskedNames$Net")) 1 (some (va_rf v)) sz K h) (hK : LyOk K)     (E : f0_netAt_J17 K n h = some v) : Go Γ (0, 0) 17 [] [] sz K h := by
  unfold f0_netAt_J17 at E
  refine g_null X (by decide +kernel) ?_
  refine g_goto (off := 12) (tgt := 30) X (by decide +kernel) (by decide) ?_
  obtain rfl := Option.some.inj E
  exact g_areturn (x := none) X (by decide +kernel) (Or.inl ⟨_, rfl⟩)
set_option maxHeartbeats 4000000 in
set_option maxRecDepth 20000 in
theorem c0_netAt {sp : Sp} {K : Ly} {sz n : Nat} (hK : LyOk K) (o : Nat) (a1 : Int32) (h : Hp) (ho : K o = some (.inl 0)) {v : Option Nat} (E : f0_netAt K n o a1 h = some v) : Con sp y0_netAt prog_1_method_26_code 2 (some (.object "AskedNames$Net")) 1 0 0 [.ref o, .int a1] sz K h (some (va_rf v)) sz K h := by
  refine Con.of (by decide) (Nat.le_of_ble_eq_true rfl) (fun Γ X _ => ?_)
  show Go Γ (0, 0) 0 [(0, .ref o), (1, .int a1)] [] sz K h
  unfold f0_netAt at E
  refine g_iload_n (n := 1) X (by decide +kernel) 1 rfl ?_
  rcases it_E E with ⟨c1, E⟩ | ⟨c1, E⟩
  · refine g_if_lt_t (off := 16) (tgt := 17) X (by decide +kernel) (by decide) c1 ?_
    refine g_sub [] rfl ?_
    exact w0_netAt_J17 X hK  E
  · refine g_if_lt_f (off := 16) (tgt := 17) X (by decide +kernel) (by decide) c1 ?_
    refine g_iload_n (n := 1) X (by decide +kernel) 1 rfl ?_
    refine g_aload_n (n := 0) X (by decide +kernel) 0 rfl ?_
    refine g_getS X (by decide +kernel) fl0_10 ho ?_
    refine g_getS X (by decide +kernel) fl0_62 (ly hK ho fl0_10 rfl) ?_
    refine g_iconst (n := 0) (x := (0 : Int32)) X (by decide +kernel) (by decide) ?_
    refine g_iald X (by decide +kernel) (ly hK (ly hK ho fl0_10 rfl) fl0_62 rfl) (by decide) ?_
    rcases it_E E with ⟨c2, E⟩ | ⟨c2, E⟩
    · refine g_icmp_lt_t (off := 7) (tgt := 21) X (by decide +kernel) (by decide) c2 ?_
      refine g_aload_n (n := 0) X (by decide +kernel) 0 rfl ?_
      refine g_getS X (by decide +kernel) fl0_10 ho ?_
      refine g_getS X (by decide +kernel) fl0_288 (ly hK ho fl0_10 rfl) ?_
      refine g_iload_n (n := 1) X (by decide +kernel) 1 rfl ?_
      obtain ⟨c3, E⟩ := gd_E E
      obtain ⟨o4, qo4, po4, E⟩ := ob_E E
      refine g_aald (C := "AskedNames$Net") X (by decide +kernel) (ly hK (ly hK ho fl0_10 rfl) fl0_288 rfl) rfl rfl c3 qo4 ?_
      obtain rfl := Option.some.inj E
      exact g_areturn (x := (some o4)) X (by decide +kernel) (Or.inl ⟨_, rfl⟩)
    · refine g_icmp_lt_f (off := 7) (tgt := 21) X (by decide +kernel) (by decide) c2 ?_
      refine g_sub [] rfl ?_
      exact w0_netAt_J17 X hK  E
-- AskedNames.net
def f0_net (K : Ly) (n : Nat) (o : Nat) (a1 : Int32) (a2 : Int32) (h : Hp) : Option (Int32) :=
    bp (f0_netAt K n o a1 h) fun y2 =>
    nl y2 (
    some (-2 : Int32)) fun o3 => gd (isO K o3 2) (
    if a2 = (0 : Int32) then (
    some (h.1 o3 0))
    else if a2 = (1 : Int32) then (
    some (h.1 o3 1))
    else if a2 = (2 : Int32) then (
    some (h.1 o3 2))
    else if a2 = (3 : Int32) then (
    some (h.1 o3 3))
    else if a2 = (4 : Int32) then (
    some (h.1 o3 4))
    else (
    if a2 < (300 : Int32) then (
    if a2 < (200 : Int32) then (
    if a2 < (100 : Int32) then (
    if a2 < (10 : Int32) then (
    some (-2 : Int32))
    else (
    if (h.1 o3 0) ≤ (a2 - (10 : Int32)) then (
    some (-2 : Int32))
    else (
    gd (inb (a2 - (10 : Int32)) 6) <|
    some (h.1 (o3 + 1) (a2 - (10 : Int32)).toNatClampNeg))))
    else (
    bp (f2_ofPair K n o3 (a2 - (100 : Int32)) h) fun y16 =>
    some y16))
    else (
    bp (f2_ofRoute K n o3 (a2 - (200 : Int32)) h) fun y18 =>
    some y18))
    else (
    bp (f2_ofServe K n o3 (a2 - (300 : Int32)) h) fun y20 =>
    some y20)))
set_option maxHeartbeats 4000000 in
set_option maxRecDepth 20000 in
theorem c0_net {sp : Sp} {K : Ly} {sz n : Nat} (hK : LyOk K) (o : Nat) (a1 : Int32) (a2 : Int32) (h : Hp) (ho : K o = some (.inl 0)) {v : Int32} (E : f0_net K n o a1 a2 h = some v) : Con sp y0_net prog_1_method_6_code 4 (some (.int)) 3 0 0 [.ref o, .int a1, .int a2] sz K h (some (.int v)) sz K h := by
  refine Con.of (by decide) (Nat.le_of_ble_eq_true rfl) (fun Γ X _ => ?_)
  show Go Γ (0, 0) 0 [(0, .ref o), (1, .int a1), (2, .int a2)] [] sz K h
  unfold f0_net at E
  refine g_aload_n (n := 0) X (by decide +kernel) 0 rfl ?_
  refine g_iload_n (n := 1) X (by decide +kernel) 1 rfl ?_
  obtain ⟨y2, e1, E⟩ := bp_E E
  refine g_callV1 (st := []) X [.int a1] (by decide +kernel) ml0_79 ho rfl rfl (by decide) (Nat.le_of_ble_eq_true rfl) (c0_netAt hK o a1 h ho e1) ?_
  refine s_qstore_n (n := 3) (i := 3) X (by decide +kernel) rfl (by decide) rfl (ls_next (by decide) (Or.inr rfl) (ls_next (by decide) (Or.inr rfl) (ls_next (by decide) (Or.inr rfl) (ls_ins ls_end)))) ?_
  refine g_qload_n (n := 3) X (by decide +kernel) 3 rfl ?_
  rcases nl_E E with ⟨qo3, E⟩ | ⟨o3, qo3, E⟩
  · subst qo3
    refine g_ifnonnull_N (off := 6) (tgt := 13) X (by decide +kernel) (by decide) ?_
    refine g_bipush (n := -2) (x := (-2 : Int32)) X (by decide +kernel) (by decide) ?_
    obtain rfl := Option.some.inj E
    exact g_ireturn X (by decide +kernel)
  · subst qo3
    obtain ⟨po3, E⟩ := gd_E E
    replace po3 := isO_of po3
    refine g_ifnonnull_R (off := 6) (tgt := 13) X (by decide +kernel) (by decide) ?_
    refine g_iload_n (n := 2) X (by decide +kernel) 2 rfl ?_
    rcases it_E E with ⟨c4, E⟩ | ⟨c4, E⟩
    · refine g_tab_in (dflt := 59) (lo := 0) (hi := 4) (offs := #[34, 39, 44, 49, 54]) (len := 34) (off := 34) (tgt := 48) X (by decide +kernel) (by rw [c4]; decide) (by rw [c4]; decide) (by rw [c4]; decide) (by decide) ?_
      refine g_aload_n (n := 3) X (by decide +kernel) 3 rfl ?_
      refine g_getI X (by decide +kernel) fl0_83 po3 ?_
      obtain rfl := Option.some.inj E
      exact g_ireturn X (by decide +kernel)
    · rcases it_E E with ⟨c5, E⟩ | ⟨c5, E⟩
      · refine g_tab_in (dflt := 59) (lo := 0) (hi := 4) (offs := #[34, 39, 44, 49, 54]) (len := 34) (off := 39) (tgt := 53) X (by decide +kernel) (by rw [c5]; decide) (by rw [c5]; decide) (by rw [c5]; decide) (by decide) ?_
        refine g_aload_n (n := 3) X (by decide +kernel) 3 rfl ?_
        refine g_getI X (by decide +kernel) fl0_88 po3 ?_
        obtain rfl := Option.some.inj E
        exact g_ireturn X (by decide +kernel)
      · rcases it_E E with ⟨c6, E⟩ | ⟨c6, E⟩
        · refine g_tab_in (dflt := 59) (lo := 0) (hi := 4) (offs := #[34, 39, 44, 49, 54]) (len := 34) (off := 44) (tgt := 58) X (by decide +kernel) (by rw [c6]; decide) (by rw [c6]; decide) (by rw [c6]; decide) (by decide) ?_
          refine g_aload_n (n := 3) X (by decide +kernel) 3 rfl ?_
          refine g_getI X (by decide +kernel) fl0_91 po3 ?_
          obtain rfl := Option.some.inj E
          exact g_ireturn X (by decide +kernel)
        · rcases it_E E with ⟨c7, E⟩ | ⟨c7, E⟩
          · refine g_tab_in (dflt := 59) (lo := 0) (hi := 4) (offs := #[34, 39, 44, 49, 54]) (len := 34) (off := 49) (tgt := 63) X (by decide +kernel) (by rw [c7]; decide) (by rw [c7]; decide) (by rw [c7]; decide) (by decide) ?_
            refine g_aload_n (n := 3) X (by decide +kernel) 3 rfl ?_
            refine g_getI X (by decide +kernel) fl0_94 po3 ?_
            obtain rfl := Option.some.inj E
            exact g_ireturn X (by decide +kernel)
          · rcases it_E E with ⟨c8, E⟩ | ⟨c8, E⟩
            · refine g_tab_in (dflt := 59) (lo := 0) (hi := 4) (offs := #[34, 39, 44, 49, 54]) (len := 34) (off := 54) (tgt := 68) X (by decide +kernel) (by rw [c8]; decide) (by rw [c8]; decide) (by rw [c8]; decide) (by decide) ?_
              refine g_aload_n (n := 3) X (by decide +kernel) 3 rfl ?_
              refine g_getI X (by decide +kernel) fl0_97 po3 ?_
              obtain rfl := Option.some.inj E
              exact g_ireturn X (by decide +kernel)
            · have z21 : a2.toInt < 0 ∨ 4 < a2.toInt := by
                have z := sw_out (x := a2) 0 4 (by decide) (by decide) (by
                  intro j hj
                  have hj2 : j = 0 ∨ j = 1 ∨ j = 2 ∨ j = 3 ∨ j = 4 := by omega
                  rcases hj2 with rfl | rfl | rfl | rfl | rfl
                  · exact c4
                  · exact c5
                  · exact c6
                  · exact c7
                  · exact c8)
                simpa using z
              refine g_tab_out (dflt := 59) (lo := 0) (hi := 4) (offs := #[34, 39, 44, 49, 54]) (len := 34) (tgt := 73) X (by decide +kernel) z21 (by decide) ?_
              refine g_iload_n (n := 2) X (by decide +kernel) 2 rfl ?_
              refine g_sipush (n := 300) (x := (300 : Int32)) X (by decide +kernel) (by decide) ?_
              rcases it_E E with ⟨c9, E⟩ | ⟨c9, E⟩
              · refine g_icmp_lt_t (off := 13) (tgt := 90) X (by decide +kernel) (by decide) c9 ?_
                refine g_iload_n (n := 2) X (by decide +kernel) 2 rfl ?_
                refine g_sipush (n := 200) (x := (200 : Int32)) X (by decide +kernel) (by decide) ?_
                rcases it_E E with ⟨c10, E⟩ | ⟨c10, E⟩
                · refine g_icmp_lt_t (off := 13) (tgt := 107) X (by decide +kernel) (by decide) c10 ?_
                  refine g_iload_n (n := 2) X (by decide +kernel) 2 rfl ?_
                  refine g_bipush (n := 100) (x := (100 : Int32)) X (by decide +kernel) (by decide) ?_
                  rcases it_E E with ⟨c11, E⟩ | ⟨c11, E⟩
                  · refine g_icmp_lt_t (off := 12) (tgt := 122) X (by decide +kernel) (by decide) c11 ?_
                    refine g_iload_n (n := 2) X (by decide +kernel) 2 rfl ?_
                    refine g_bipush (n := 10) (x := (10 : Int32)) X (by decide +kernel) (by decide) ?_
                    rcases it_E E with ⟨c12, E⟩ | ⟨c12, E⟩
                    · refine g_icmp_lt_t (off := 26) (tgt := 151) X (by decide +kernel) (by decide) c12 ?_
                      refine g_bipush (n := -2) (x := (-2 : Int32)) X (by decide +kernel) (by decide) ?_
                      obtain rfl := Option.some.inj E
                      exact g_ireturn X (by decide +kernel)
                    · refine g_icmp_lt_f (off := 26) (tgt := 151) X (by decide +kernel) (by decide) c12 ?_
                      refine g_iload_n (n := 2) X (by decide +kernel) 2 rfl ?_
                      refine g_bipush (n := 10) (x := (10 : Int32)) X (by decide +kernel) (by decide) ?_
                      refine g_isub X (by decide +kernel) ?_
                      refine g_aload_n (n := 3) X (by decide +kernel) 3 rfl ?_
                      refine g_getI X (by decide +kernel) fl0_83 po3 ?_
                      rcases it_E E with ⟨c13, E⟩ | ⟨c13, E⟩
                      · refine g_icmp_ge_t (off := 15) (tgt := 151) X (by decide +kernel) (by decide) c13 ?_
                        refine g_bipush (n := -2) (x := (-2 : Int32)) X (by decide +kernel) (by decide) ?_
                        obtain rfl := Option.some.inj E
                        exact g_ireturn X (by decide +kernel)
                      · refine g_icmp_ge_f (off := 15) (tgt := 151) X (by decide +kernel) (by decide) c13 ?_
                        refine g_aload_n (n := 3) X (by decide +kernel) 3 rfl ?_
                        refine g_getS X (by decide +kernel) fl0_110 po3 ?_
                        refine g_iload_n (n := 2) X (by decide +kernel) 2 rfl ?_
                        refine g_bipush (n := 10) (x := (10 : Int32)) X (by decide +kernel) (by decide) ?_
                        refine g_isub X (by decide +kernel) ?_
                        obtain ⟨c14, E⟩ := gd_E E
                        refine g_iald X (by decide +kernel) (ly hK po3 fl0_110 rfl) c14 ?_
                        refine g_goto (off := 5) (tgt := 153) X (by decide +kernel) (by decide) ?_
                        obtain rfl := Option.some.inj E
                        exact g_ireturn X (by decide +kernel)
                  · refine g_icmp_lt_f (off := 12) (tgt := 122) X (by decide +kernel) (by decide) c11 ?_
                    refine g_aload_n (n := 3) X (by decide +kernel) 3 rfl ?_
                    refine g_iload_n (n := 2) X (by decide +kernel) 2 rfl ?_
                    refine g_bipush (n := 100) (x := (100 : Int32)) X (by decide +kernel) (by decide) ?_
                    refine g_isub X (by decide +kernel) ?_
                    obtain ⟨y16, e15, E⟩ := bp_E E
                    refine g_callV1 (st := []) X [.int (a2 - (100 : Int32))] (by decide +kernel) ml0_107 po3 rfl rfl (by decide) (Nat.le_of_ble_eq_true rfl) (c2_ofPair hK o3 (a2 - (100 : Int32)) h po3 e15) ?_
                    obtain rfl := Option.some.inj E
                    exact g_ireturn X (by decide +kernel)
                · refine g_icmp_lt_f (off := 13) (tgt := 107) X (by decide +kernel) (by decide) c10 ?_
                  refine g_aload_n (n := 3) X (by decide +kernel) 3 rfl ?_
                  refine g_iload_n (n := 2) X (by decide +kernel) 2 rfl ?_
                  refine g_sipush (n := 200) (x := (200 : Int32)) X (by decide +kernel) (by decide) ?_
                  refine g_isub X (by decide +kernel) ?_
                  obtain ⟨y18, e17, E⟩ := bp_E E
                  refine g_callV1 (st := []) X [.int (a2 - (200 : Int32))] (by decide +kernel) ml0_104 po3 rfl rfl (by decide) (Nat.le_of_ble_eq_true rfl) (c2_ofRoute hK o3 (a2 - (200 : Int32)) h po3 e17) ?_
                  obtain rfl := Option.some.inj E
                  exact g_ireturn X (by decide +kernel)
              · refine g_icmp_lt_f (off := 13) (tgt := 90) X (by decide +kernel) (by decide) c9 ?_
                refine g_aload_n (n := 3) X (by decide +kernel) 3 rfl ?_
                refine g_iload_n (n := 2) X (by decide +kernel) 2 rfl ?_
                refine g_sipush (n := 300) (x := (300 : Int32)) X (by decide +kernel) (by decide) ?_
                refine g_isub X (by decide +kernel) ?_
                obtain ⟨y20, e19, E⟩ := bp_E E
                refine g_callV1 (st := []) X [.int (a2 - (300 : Int32))] (by decide +kernel) ml0_100 po3 rfl rfl (by decide) (Nat.le_of_ble_eq_true rfl) (c2_ofServe hK o3 (a2 - (300 : Int32)) h po3 e19) ?_
                obtain rfl := Option.some.inj E
                exact g_ireturn X (by decide +kernel)
-- AskedNames.runAt
def f0_runAt_J17 (K : Ly) (n : Nat)   (h : Hp) : Option (Option Nat) :=
    some none
def f0_runAt (K : Ly) (n : Nat) (o : Nat) (a1 : Int32) (h : Hp) : Option (Option Nat) :=
    if a1 < 0 then (
    f0_runAt_J17 K n h)
    else (
    if a1 < (h.1 ((o + 1) + 2) (1 : Int32).toNatClampNeg) then (
    gd (inb a1 2) <|
    ob (h.2.2 ((o + 1) + 30) a1.toNatClampNeg) K 3 fun o4 =>
    some (some o4))
    else (
    f0_runAt_J17 K n h))
set_option maxHeartbeats 4000000 in
set_option maxRecDepth 20000 in
theorem w0_runAt_J17 {Γ : CT} {sp : Sp} {K : Ly} {sz n : Nat} {v : Option Nat} {h : Hp}   (X : Ok Γ sp prog_1_method_27_code Rc0 2 (some (.object "AskedNames$Run")) 1 (some (va_rf v)) sz K h) (hK : LyOk K)     (E : f0_runAt_J17 K n h = some v) : Go Γ (0, 0) 17 [] [] sz K h := by
  unfold f0_runAt_J17 at E
  refine g_null X (by decide +kernel) ?_
  refine g_goto (off := 12) (tgt := 30) X (by decide +kernel) (by decide) ?_
  obtain rfl := Option.some.inj E
  exact g_areturn (x := none) X (by decide +kernel) (Or.inl ⟨_, rfl⟩)
set_option maxHeartbeats 4000000 in
set_option maxRecDepth 20000 in
theorem c0_runAt {sp : Sp} {K : Ly} {sz n : Nat} (hK : LyOk K) (o : Nat) (a1 : Int32) (h : Hp) (ho : K o = some (.inl 0)) {v : Option Nat} (E : f0_runAt K n o a1 h = some v) : Con sp y0_runAt prog_1_method_27_code 2 (some (.object "AskedNames$Run")) 1 0 0 [.ref o, .int a1] sz K h (some (va_rf v)) sz K h := by
  refine Con.of (by decide) (Nat.le_of_ble_eq_true rfl) (fun Γ X _ => ?_)
  show Go Γ (0, 0) 0 [(0, .ref o), (1, .int a1)] [] sz K h
  unfold f0_runAt at E
  refine g_iload_n (n := 1) X (by decide +kernel) 1 rfl ?_
  rcases it_E E with ⟨c1, E⟩ | ⟨c1, E⟩
  · refine g_if_lt_t (off := 16) (tgt := 17) X (by decide +kernel) (by decide) c1 ?_
    refine g_sub [] rfl ?_
    exact w0_runAt_J17 X hK  E
  · refine g_if_lt_f (off := 16) (tgt := 17) X (by decide +kernel) (by decide) c1 ?_
    refine g_iload_n (n := 1) X (by decide +kernel) 1 rfl ?_
    refine g_aload_n (n := 0) X (by decide +kernel) 0 rfl ?_
    refine g_getS X (by decide +kernel) fl0_10 ho ?_
    refine g_getS X (by decide +kernel) fl0_62 (ly hK ho fl0_10 rfl) ?_
    refine g_iconst (n := 1) (x := (1 : Int32)) X (by decide +kernel) (by decide) ?_
    refine g_iald X (by decide +kernel) (ly hK (ly hK ho fl0_10 rfl) fl0_62 rfl) (by decide) ?_
    rcases it_E E with ⟨c2, E⟩ | ⟨c2, E⟩
    · refine g_icmp_lt_t (off := 7) (tgt := 21) X (by decide +kernel) (by decide) c2 ?_
      refine g_aload_n (n := 0) X (by decide +kernel) 0 rfl ?_
      refine g_getS X (by decide +kernel) fl0_10 ho ?_
      refine g_getS X (by decide +kernel) fl0_292 (ly hK ho fl0_10 rfl) ?_
      refine g_iload_n (n := 1) X (by decide +kernel) 1 rfl ?_
      obtain ⟨c3, E⟩ := gd_E E
      obtain ⟨o4, qo4, po4, E⟩ := ob_E E
      refine g_aald (C := "AskedNames$Run") X (by decide +kernel) (ly hK (ly hK ho fl0_10 rfl) fl0_292 rfl) rfl rfl c3 qo4 ?_
      obtain rfl := Option.some.inj E
      exact g_areturn (x := (some o4)) X (by decide +kernel) (Or.inl ⟨_, rfl⟩)
    · refine g_icmp_lt_f (off := 7) (tgt := 21) X (by decide +kernel) (by decide) c2 ?_
      refine g_sub [] rfl ?_
      exact w0_runAt_J17 X hK  E
-- AskedNames.deed
def f0_deed (K : Ly) (n : Nat) (o : Nat) (a1 : Int32) (a2 : Int32) (a3 : Int32) (h : Hp) : Option (Int32) :=
    bp (f0_runAt K n o a1 h) fun y2 =>
    nl y2 (
    some (-2 : Int32)) fun o3 => gd (isO K o3 3) (
    if a2 = (-1 : Int32) then (
    some (if a3 = 0 then (h.1 o3 0) else (-2 : Int32)))
    else (
    if a2 < 0 then (
    some (-2 : Int32))
    else (
    if a2 < (h.1 o3 0) then (
    if a3 = (0 : Int32) then (
    gd (inb a2 40) <|
    some (h.1 (o3 + 1) a2.toNatClampNeg))
    else if a3 = (1 : Int32) then (
    gd (inb a2 40) <|
    some (h.1 (o3 + 2) a2.toNatClampNeg))
    else if a3 = (2 : Int32) then (
    gd (inb a2 40) <|
    some (h.1 (o3 + 3) a2.toNatClampNeg))
    else (
    some (-2 : Int32)))
    else (
    some (-2 : Int32)))))
set_option maxHeartbeats 4000000 in
set_option maxRecDepth 20000 in
theorem c0_deed {sp : Sp} {K : Ly} {sz n : Nat} (hK : LyOk K) (o : Nat) (a1 : Int32) (a2 : Int32) (a3 : Int32) (h : Hp) (ho : K o = some (.inl 0)) {v : Int32} (E : f0_deed K n o a1 a2 a3 h = some v) : Con sp y0_deed prog_1_method_7_code 5 (some (.int)) 2 0 0 [.ref o, .int a1, .int a2, .int a3] sz K h (some (.int v)) sz K h := by
  refine Con.of (by decide) (Nat.le_of_ble_eq_true rfl) (fun Γ X _ => ?_)
  show Go Γ (0, 0) 0 [(0, .ref o), (1, .int a1), (2, .int a2), (3, .int a3)] [] sz K h
  unfold f0_deed at E
  refine g_aload_n (n := 0) X (by decide +kernel) 0 rfl ?_
  refine g_iload_n (n := 1) X (by decide +kernel) 1 rfl ?_
  obtain ⟨y2, e1, E⟩ := bp_E E
  refine g_callV1 (st := []) X [.int a1] (by decide +kernel) ml0_113 ho rfl rfl (by decide) (Nat.le_of_ble_eq_true rfl) (c0_runAt hK o a1 h ho e1) ?_
  refine s_qstore (i := 4) X (by decide +kernel) (by decide) rfl (ls_next (by decide) (Or.inr rfl) (ls_next (by decide) (Or.inr rfl) (ls_next (by decide) (Or.inr rfl) (ls_next (by decide) (Or.inr rfl) (ls_ins ls_end))))) ?_
  refine g_qload (n := 4) X (by decide +kernel) 4 rfl ?_
  rcases nl_E E with ⟨qo3, E⟩ | ⟨o3, qo3, E⟩
  · subst qo3
    refine g_ifnonnull_N (off := 6) (tgt := 15) X (by decide +kernel) (by decide) ?_
    refine g_bipush (n := -2) (x := (-2 : Int32)) X (by decide +kernel) (by decide) ?_
    obtain rfl := Option.some.inj E
    exact g_ireturn X (by decide +kernel)
  · subst qo3
    obtain ⟨po3, E⟩ := gd_E E
    replace po3 := isO_of po3
    refine g_ifnonnull_R (off := 6) (tgt := 15) X (by decide +kernel) (by decide) ?_
    refine g_iload_n (n := 2) X (by decide +kernel) 2 rfl ?_
    refine g_iconst (n := -1) (x := (-1 : Int32)) X (by decide +kernel) (by decide) ?_
    rcases it_E E with ⟨c4, E⟩ | ⟨c4, E⟩
    · refine g_icmp_ne_f (off := 18) (tgt := 35) X (by decide +kernel) (by decide) (fun z => z c4) ?_
      refine g_iload_n (n := 3) X (by decide +kernel) 3 rfl ?_
      have hJ : Go Γ (0, 0) 34 [] [.int (if a3 = 0 then (h.1 o3 0) else (-2 : Int32))] sz K h := by
        obtain rfl := Option.some.inj E
        exact g_ireturn X (by decide +kernel)
      clear E
      by_cases c5 : a3 = 0
      · rw [if_pos c5] at hJ
        refine g_if_ne_f (off := 11) (tgt := 32) X (by decide +kernel) (by decide) (fun z => z c5) ?_
        refine g_aload (n := 4) X (by decide +kernel) 4 rfl ?_
        refine g_getI X (by decide +kernel) fl0_117 po3 ?_
        refine g_goto (off := 5) (tgt := 34) X (by decide +kernel) (by decide) ?_
        refine g_sub [] rfl ?_
        exact hJ
      · rw [if_neg c5] at hJ
        refine g_if_ne_t (off := 11) (tgt := 32) X (by decide +kernel) (by decide) c5 ?_
        refine g_bipush (n := -2) (x := (-2 : Int32)) X (by decide +kernel) (by decide) ?_
        refine g_sub [] rfl ?_
        exact hJ
    · refine g_icmp_ne_t (off := 18) (tgt := 35) X (by decide +kernel) (by decide) c4 ?_
      refine g_iload_n (n := 2) X (by decide +kernel) 2 rfl ?_
      rcases it_E E with ⟨c6, E⟩ | ⟨c6, E⟩
      · refine g_if_lt_t (off := 12) (tgt := 48) X (by decide +kernel) (by decide) c6 ?_
        refine g_bipush (n := -2) (x := (-2 : Int32)) X (by decide +kernel) (by decide) ?_
        obtain rfl := Option.some.inj E
        exact g_ireturn X (by decide +kernel)
      · refine g_if_lt_f (off := 12) (tgt := 48) X (by decide +kernel) (by decide) c6 ?_
        refine g_iload_n (n := 2) X (by decide +kernel) 2 rfl ?_
        refine g_aload (n := 4) X (by decide +kernel) 4 rfl ?_
        refine g_getI X (by decide +kernel) fl0_117 po3 ?_
        rcases it_E E with ⟨c7, E⟩ | ⟨c7, E⟩
        · refine g_icmp_lt_t (off := 6) (tgt := 51) X (by decide +kernel) (by decide) c7 ?_
          refine g_iload_n (n := 3) X (by decide +kernel) 3 rfl ?_
          rcases it_E E with ⟨c8, E⟩ | ⟨c8, E⟩
          · refine g_tab_in (dflt := 52) (lo := 0) (hi := 2) (offs := #[28, 36, 44]) (len := 28) (off := 28) (tgt := 80) X (by decide +kernel) (by rw [c8]; decide) (by rw [c8]; decide) (by rw [c8]; decide) (by decide) ?_
            refine g_aload (n := 4) X (by decide +kernel) 4 rfl ?_
            refine g_getS X (by decide +kernel) fl0_122 po3 ?_
            refine g_iload_n (n := 2) X (by decide +kernel) 2 rfl ?_
            obtain ⟨c9, E⟩ := gd_E E
            refine g_iald X (by decide +kernel) (ly hK po3 fl0_122 rfl) c9 ?_
            obtain rfl := Option.some.inj E
            exact g_ireturn X (by decide +kernel)
          · rcases it_E E with ⟨c10, E⟩ | ⟨c10, E⟩
            · refine g_tab_in (dflt := 52) (lo := 0) (hi := 2) (offs := #[28, 36, 44]) (len := 28) (off := 36) (tgt := 88) X (by decide +kernel) (by rw [c10]; decide) (by rw [c10]; decide) (by rw [c10]; decide) (by decide) ?_
              refine g_aload (n := 4) X (by decide +kernel) 4 rfl ?_
              refine g_getS X (by decide +kernel) fl0_125 po3 ?_
              refine g_iload_n (n := 2) X (by decide +kernel) 2 rfl ?_
              obtain ⟨c11, E⟩ := gd_E E
              refine g_iald X (by decide +kernel) (ly hK po3 fl0_125 rfl) c11 ?_
              obtain rfl := Option.some.inj E
              exact g_ireturn X (by decide +kernel)
            · rcases it_E E with ⟨c12, E⟩ | ⟨c12, E⟩
              · refine g_tab_in (dflt := 52) (lo := 0) (hi := 2) (offs := #[28, 36, 44]) (len := 28) (off := 44) (tgt := 96) X (by decide +kernel) (by rw [c12]; decide) (by rw [c12]; decide) (by rw [c12]; decide) (by decide) ?_
                refine g_aload (n := 4) X (by decide +kernel) 4 rfl ?_
                refine g_getS X (by decide +kernel) fl0_128 po3 ?_
                refine g_iload_n (n := 2) X (by decide +kernel) 2 rfl ?_
                obtain ⟨c13, E⟩ := gd_E E
                refine g_iald X (by decide +kernel) (ly hK po3 fl0_128 rfl) c13 ?_
                obtain rfl := Option.some.inj E
                exact g_ireturn X (by decide +kernel)
              · have z14 : a3.toInt < 0 ∨ 2 < a3.toInt := by
                  have z := sw_out (x := a3) 0 2 (by decide) (by decide) (by
                    intro j hj
                    have hj2 : j = 0 ∨ j = 1 ∨ j = 2 := by omega
                    rcases hj2 with rfl | rfl | rfl
                    · exact c8
                    · exact c10
                    · exact c12)
                  simpa using z
                refine g_tab_out (dflt := 52) (lo := 0) (hi := 2) (offs := #[28, 36, 44]) (len := 28) (tgt := 104) X (by decide +kernel) z14 (by decide) ?_
                refine g_bipush (n := -2) (x := (-2 : Int32)) X (by decide +kernel) (by decide) ?_
                obtain rfl := Option.some.inj E
                exact g_ireturn X (by decide +kernel)
        · refine g_icmp_lt_f (off := 6) (tgt := 51) X (by decide +kernel) (by decide) c7 ?_
          refine g_bipush (n := -2) (x := (-2 : Int32)) X (by decide +kernel) (by decide) ?_
          obtain rfl := Option.some.inj E
          exact g_ireturn X (by decide +kernel)
-- AskedNames.stop
def f0_stop (K : Ly) (n : Nat) (o : Nat) (a1 : Int32) (a2 : Int32) (h : Hp) : Option (Int32 × Hp) :=
    bp (f0_netAt K n o a1 h) fun y2 =>
    bp (f0_runAt K n o a2 h) fun y4 =>
    nl y2 (
    some ((-1 : Int32), h)) fun o5 => gd (isO K o5 2) (
    nl y4 (
    some ((-1 : Int32), h)) fun o6 => gd (isO K o6 3) (
    bd (f10_replay K n (o + 210) o5 o6 (h.1 o6 0) (-1 : Int32) h) fun y9 h8 =>
    some (y9, h8)))
set_option maxHeartbeats 4000000 in
set_option maxRecDepth 20000 in
theorem c0_stop {sp : Sp} {K : Ly} {sz n : Nat} (hK : LyOk K) (o : Nat) (a1 : Int32) (a2 : Int32) (h : Hp) (ho : K o = some (.inl 0)) {v : Int32} {hf : Hp} (E : f0_stop K n o a1 a2 h = some (v, hf)) : Con sp y0_stop prog_1_method_8_code 5 (some (.int)) 8 0 0 [.ref o, .int a1, .int a2] sz K h (some (.int v)) sz K hf := by
  refine Con.of (by decide) (Nat.le_of_ble_eq_true rfl) (fun Γ X _ => ?_)
  show Go Γ (0, 0) 0 [(0, .ref o), (1, .int a1), (2, .int a2)] [] sz K h
  unfold f0_stop at E
  refine g_aload_n (n := 0) X (by decide +kernel) 0 rfl ?_
  refine g_iload_n (n := 1) X (by decide +kernel) 1 rfl ?_
  obtain ⟨y2, e1, E⟩ := bp_E E
  refine g_callV1 (st := []) X [.int a1] (by decide +kernel) ml0_79 ho rfl rfl (by decide) (Nat.le_of_ble_eq_true rfl) (c0_netAt hK o a1 h ho e1) ?_
  refine s_qstore_n (n := 3) (i := 3) X (by decide +kernel) rfl (by decide) rfl (ls_next (by decide) (Or.inr rfl) (ls_next (by decide) (Or.inr rfl) (ls_next (by decide) (Or.inr rfl) (ls_ins ls_end)))) ?_
  refine g_aload_n (n := 0) X (by decide +kernel) 0 rfl ?_
  refine g_iload_n (n := 2) X (by decide +kernel) 2 rfl ?_
  obtain ⟨y4, e3, E⟩ := bp_E E
  refine g_callV1 (st := []) X [.int a2] (by decide +kernel) ml0_113 ho rfl rfl (by decide) (Nat.le_of_ble_eq_true rfl) (c0_runAt hK o a2 h ho e3) ?_
  refine s_qstore (i := 4) X (by decide +kernel) (by decide) rfl (ls_next (by decide) (Or.inr rfl) (ls_next (by decide) (Or.inr rfl) (ls_next (by decide) (Or.inr rfl) (ls_next (by decide) (Or.inr (cat_rf _)) (ls_ins ls_end))))) ?_
  refine g_qload_n (n := 3) X (by decide +kernel) 3 rfl ?_
  rcases nl_E E with ⟨qo5, E⟩ | ⟨o5, qo5, E⟩
  · subst qo5
    refine g_ifnull_N (off := 8) (tgt := 22) X (by decide +kernel) (by decide) ?_
    refine g_iconst (n := -1) (x := (-1 : Int32)) X (by decide +kernel) (by decide) ?_
    obtain ⟨rfl, rfl⟩ := rt_E E
    exact g_ireturn X (by decide +kernel)
  · subst qo5
    obtain ⟨po5, E⟩ := gd_E E
    replace po5 := isO_of po5
    refine g_ifnull_R (off := 8) (tgt := 22) X (by decide +kernel) (by decide) ?_
    refine g_qload (n := 4) X (by decide +kernel) 4 rfl ?_
    rcases nl_E E with ⟨qo6, E⟩ | ⟨o6, qo6, E⟩
    · subst qo6
      refine g_ifnonnull_N (off := 5) (tgt := 24) X (by decide +kernel) (by decide) ?_
      refine g_iconst (n := -1) (x := (-1 : Int32)) X (by decide +kernel) (by decide) ?_
      obtain ⟨rfl, rfl⟩ := rt_E E
      exact g_ireturn X (by decide +kernel)
    · subst qo6
      obtain ⟨po6, E⟩ := gd_E E
      replace po6 := isO_of po6
      refine g_ifnonnull_R (off := 5) (tgt := 24) X (by decide +kernel) (by decide) ?_
      refine g_aload_n (n := 0) X (by decide +kernel) 0 rfl ?_
      refine g_getS X (by decide +kernel) fl0_34 ho ?_
      refine g_aload_n (n := 3) X (by decide +kernel) 3 rfl ?_
      refine g_aload (n := 4) X (by decide +kernel) 4 rfl ?_
      refine g_aload (n := 4) X (by decide +kernel) 4 rfl ?_
      refine g_getI X (by decide +kernel) fl0_117 po6 ?_
      refine g_iconst (n := -1) (x := (-1 : Int32)) X (by decide +kernel) (by decide) ?_
      obtain ⟨y9, h8, e7, E⟩ := bd_E E
      refine g_callV1 (st := []) X [.ref o5, .ref o6, .int (h.1 o6 0), .int (-1 : Int32)] (by decide +kernel) ml0_131 (ly hK ho fl0_34 rfl) rfl rfl (by decide) (Nat.le_of_ble_eq_true rfl) (c10_replay hK (o + 210) o5 o6 (h.1 o6 0) (-1 : Int32) h (ly hK ho fl0_34 rfl) po5 po6 e7) ?_
      obtain ⟨rfl, rfl⟩ := rt_E E
      exact g_ireturn X (by decide +kernel)
-- AskedNames.state
def f0_state (K : Ly) (n : Nat) (o : Nat) (a1 : Int32) (a2 : Int32) (a3 : Int32) (a4 : Int32) (h : Hp) : Option (Int32 × Hp) :=
    bp (f0_netAt K n o a1 h) fun y2 =>
    bp (f0_runAt K n o a2 h) fun y4 =>
    nl y2 (
    some ((-2 : Int32), h)) fun o5 => gd (isO K o5 2) (
    nl y4 (
    some ((-2 : Int32), h)) fun o6 => gd (isO K o6 3) (
    if a3 < 0 then (
    some ((-2 : Int32), h))
    else (
    if a3 ≤ (h.1 o6 0) then (
    bd (f10_replay K n (o + 210) o5 o6 a3 (-1 : Int32) h) fun y11 h10 =>
    if a3 ≤ y11 then (
    bp (f10_look K n (o + 210) a4 h10) fun y14 =>
    some (y14, h10))
    else (
    some ((-2 : Int32), h10)))
    else (
    some ((-2 : Int32), h)))))
set_option maxHeartbeats 4000000 in
set_option maxRecDepth 20000 in
theorem c0_state {sp : Sp} {K : Ly} {sz n : Nat} (hK : LyOk K) (o : Nat) (a1 : Int32) (a2 : Int32) (a3 : Int32) (a4 : Int32) (h : Hp) (ho : K o = some (.inl 0)) {v : Int32} {hf : Hp} (E : f0_state K n o a1 a2 a3 a4 h = some (v, hf)) : Con sp y0_state prog_1_method_9_code 8 (some (.int)) 8 0 0 [.ref o, .int a1, .int a2, .int a3, .int a4] sz K h (some (.int v)) sz K hf := by
  refine Con.of (by decide) (Nat.le_of_ble_eq_true rfl) (fun Γ X _ => ?_)
  show Go Γ (0, 0) 0 [(0, .ref o), (1, .int a1), (2, .int a2), (3, .int a3), (4, .int a4)] [] sz K h
  unfold f0_state at E
  refine g_aload_n (n := 0) X (by decide +kernel) 0 rfl ?_
  refine g_iload_n (n := 1) X (by decide +kernel) 1 rfl ?_
  obtain ⟨y2, e1, E⟩ := bp_E E
  refine g_callV1 (st := []) X [.int a1] (by decide +kernel) ml0_79 ho rfl rfl (by decide) (Nat.le_of_ble_eq_true rfl) (c0_netAt hK o a1 h ho e1) ?_
  refine s_qstore (i := 5) X (by decide +kernel) (by decide) rfl (ls_next (by decide) (Or.inr rfl) (ls_next (by decide) (Or.inr rfl) (ls_next (by decide) (Or.inr rfl) (ls_next (by decide) (Or.inr rfl) (ls_next (by decide) (Or.inr rfl) (ls_ins ls_end)))))) ?_
  refine g_aload_n (n := 0) X (by decide +kernel) 0 rfl ?_
  refine g_iload_n (n := 2) X (by decide +kernel) 2 rfl ?_
  obtain ⟨y4, e3, E⟩ := bp_E E
  refine g_callV1 (st := []) X [.int a2] (by decide +kernel) ml0_113 ho rfl rfl (by decide) (Nat.le_of_ble_eq_true rfl) (c0_runAt hK o a2 h ho e3) ?_
  refine s_qstore (i := 6) X (by decide +kernel) (by decide) rfl (ls_next (by decide) (Or.inr rfl) (ls_next (by decide) (Or.inr rfl) (ls_next (by decide) (Or.inr rfl) (ls_next (by decide) (Or.inr rfl) (ls_next (by decide) (Or.inr rfl) (ls_next (by decide) (Or.inr (cat_rf _)) (ls_ins ls_end))))))) ?_
  refine g_qload (n := 5) X (by decide +kernel) 5 rfl ?_
  rcases nl_E E with ⟨qo5, E⟩ | ⟨o5, qo5, E⟩
  · subst qo5
    refine g_ifnull_N (off := 21) (tgt := 37) X (by decide +kernel) (by decide) ?_
    refine g_bipush (n := -2) (x := (-2 : Int32)) X (by decide +kernel) (by decide) ?_
    obtain ⟨rfl, rfl⟩ := rt_E E
    exact g_ireturn X (by decide +kernel)
  · subst qo5
    obtain ⟨po5, E⟩ := gd_E E
    replace po5 := isO_of po5
    refine g_ifnull_R (off := 21) (tgt := 37) X (by decide +kernel) (by decide) ?_
    refine g_qload (n := 6) X (by decide +kernel) 6 rfl ?_
    rcases nl_E E with ⟨qo6, E⟩ | ⟨o6, qo6, E⟩
    · subst qo6
      refine g_ifnull_N (off := 16) (tgt := 37) X (by decide +kernel) (by decide) ?_
      refine g_bipush (n := -2) (x := (-2 : Int32)) X (by decide +kernel) (by decide) ?_
      obtain ⟨rfl, rfl⟩ := rt_E E
      exact g_ireturn X (by decide +kernel)
    · subst qo6
      obtain ⟨po6, E⟩ := gd_E E
      replace po6 := isO_of po6
      refine g_ifnull_R (off := 16) (tgt := 37) X (by decide +kernel) (by decide) ?_
      refine g_iload_n (n := 3) X (by decide +kernel) 3 rfl ?_
      rcases it_E E with ⟨c7, E⟩ | ⟨c7, E⟩
      · refine g_if_lt_t (off := 12) (tgt := 37) X (by decide +kernel) (by decide) c7 ?_
        refine g_bipush (n := -2) (x := (-2 : Int32)) X (by decide +kernel) (by decide) ?_
        obtain ⟨rfl, rfl⟩ := rt_E E
        exact g_ireturn X (by decide +kernel)
      · refine g_if_lt_f (off := 12) (tgt := 37) X (by decide +kernel) (by decide) c7 ?_
        refine g_iload_n (n := 3) X (by decide +kernel) 3 rfl ?_
        refine g_aload (n := 6) X (by decide +kernel) 6 rfl ?_
        refine g_getI X (by decide +kernel) fl0_117 po6 ?_
        rcases it_E E with ⟨c8, E⟩ | ⟨c8, E⟩
        · refine g_icmp_le_t (off := 6) (tgt := 40) X (by decide +kernel) (by decide) c8 ?_
          refine g_aload_n (n := 0) X (by decide +kernel) 0 rfl ?_
          refine g_getS X (by decide +kernel) fl0_34 ho ?_
          refine g_aload (n := 5) X (by decide +kernel) 5 rfl ?_
          refine g_aload (n := 6) X (by decide +kernel) 6 rfl ?_
          refine g_iload_n (n := 3) X (by decide +kernel) 3 rfl ?_
          refine g_iconst (n := -1) (x := (-1 : Int32)) X (by decide +kernel) (by decide) ?_
          obtain ⟨y11, h10, e9, E⟩ := bd_E E
          refine g_callV1 (st := []) X [.ref o5, .ref o6, .int a3, .int (-1 : Int32)] (by decide +kernel) ml0_131 (ly hK ho fl0_34 rfl) rfl rfl (by decide) (Nat.le_of_ble_eq_true rfl) (c10_replay hK (o + 210) o5 o6 a3 (-1 : Int32) h (ly hK ho fl0_34 rfl) po5 po6 e9) ?_
          refine s_istore (i := 7) X (by decide +kernel) (by decide) rfl (ls_next (by decide) (Or.inr rfl) (ls_next (by decide) (Or.inr rfl) (ls_next (by decide) (Or.inr rfl) (ls_next (by decide) (Or.inr rfl) (ls_next (by decide) (Or.inr rfl) (ls_next (by decide) (Or.inr rfl) (ls_next (by decide) (Or.inr rfl) (ls_ins ls_end)))))))) ?_
          refine g_iload (n := 7) X (by decide +kernel) 7 rfl ?_
          refine g_iload_n (n := 3) X (by decide +kernel) 3 rfl ?_
          rcases it_E E with ⟨c12, E⟩ | ⟨c12, E⟩
          · refine g_icmp_ge_t (off := 8) (tgt := 66) X (by decide +kernel) (by decide) c12 ?_
            refine g_aload_n (n := 0) X (by decide +kernel) 0 rfl ?_
            refine g_getS X (by decide +kernel) fl0_34 ho ?_
            refine g_iload (n := 4) X (by decide +kernel) 4 rfl ?_
            obtain ⟨y14, e13, E⟩ := bp_E E
            refine g_callV1 (st := []) X [.int a4] (by decide +kernel) ml0_135 (ly hK ho fl0_34 rfl) rfl rfl (by decide) (Nat.le_of_ble_eq_true rfl) (c10_look hK (o + 210) a4 h10 (ly hK ho fl0_34 rfl) e13) ?_
            obtain ⟨rfl, rfl⟩ := rt_E E
            exact g_ireturn X (by decide +kernel)
          · refine g_icmp_ge_f (off := 8) (tgt := 66) X (by decide +kernel) (by decide) c12 ?_
            refine g_bipush (n := -2) (x := (-2 : Int32)) X (by decide +kernel) (by decide) ?_
            refine g_goto (off := 12) (tgt := 75) X (by decide +kernel) (by decide) ?_
            obtain ⟨rfl, rfl⟩ := rt_E E
            exact g_ireturn X (by decide +kernel)
        · refine g_icmp_le_f (off := 6) (tgt := 40) X (by decide +kernel) (by decide) c8 ?_
          refine g_bipush (n := -2) (x := (-2 : Int32)) X (by decide +kernel) (by decide) ?_
          obtain ⟨rfl, rfl⟩ := rt_E E
          exact g_ireturn X (by decide +kernel)
-- AskedNames.stored
def f0_stored (K : Ly) (n : Nat) (o : Nat) (a1 : Int32) (a2 : Int32) (a3 : Int32) (a4 : Int32) (a5 : Int32) (a6 : Int32) (h : Hp) : Option (Int32 × Hp) :=
    bp (f0_netAt K n o a1 h) fun y2 =>
    bp (f0_runAt K n o a2 h) fun y4 =>
    nl y2 (
    some ((-1 : Int32), h)) fun o5 => gd (isO K o5 2) (
    nl y4 (
    some ((-1 : Int32), h)) fun o6 => gd (isO K o6 3) (
    if a3 < 0 then (
    some ((-1 : Int32), h))
    else (
    if (h.1 o6 0) < a3 then (
    some ((-1 : Int32), h))
    else (
    if (f2_hasNode o5 a4 h) = 0 then (
    some ((-1 : Int32), h))
    else (
    bd (f10_replay K n (o + 210) o5 o6 a3 (-1 : Int32) h) fun y12 h11 =>
    gd (inb a4 6) <|
    ob (h11.2.2 ((o + 210) + 20) a4.toNatClampNeg) K 8 fun o14 =>
    if y12 < a3 then (
    some ((-1 : Int32), h11))
    else (
    if a5 < 0 then (
    some ((-1 : Int32), h11))
    else (
    if a5 < (h11.1 o14 0) then (
    if a6 = (0 : Int32) then (
    gd (inb a5 4) <|
    some ((h11.1 (o14 + 1) a5.toNatClampNeg), h11))
    else if a6 = (1 : Int32) then (
    gd (inb a5 4) <|
    some ((h11.1 (o14 + 2) a5.toNatClampNeg), h11))
    else if a6 = (2 : Int32) then (
    gd (inb a5 4) <|
    some ((h11.1 (o14 + 3) a5.toNatClampNeg), h11))
    else (
    some ((-1 : Int32), h11)))
    else (
    some ((-1 : Int32), h11)))))))))
set_option maxHeartbeats 4000000 in
set_option maxRecDepth 20000 in
theorem c0_stored {sp : Sp} {K : Ly} {sz n : Nat} (hK : LyOk K) (o : Nat) (a1 : Int32) (a2 : Int32) (a3 : Int32) (a4 : Int32) (a5 : Int32) (a6 : Int32) (h : Hp) (ho : K o = some (.inl 0)) {v : Int32} {hf : Hp} (E : f0_stored K n o a1 a2 a3 a4 a5 a6 h = some (v, hf)) : Con sp y0_stored prog_1_method_10_code 11 (some (.int)) 8 0 0 [.ref o, .int a1, .int a2, .int a3, .int a4, .int a5, .int a6] sz K h (some (.int v)) sz K hf := by
  refine Con.of (by decide) (Nat.le_of_ble_eq_true rfl) (fun Γ X _ => ?_)
  show Go Γ (0, 0) 0 [(0, .ref o), (1, .int a1), (2, .int a2), (3, .int a3), (4, .int a4), (5, .int a5), (6, .int a6)] [] sz K h
  unfold f0_stored at E
  refine g_aload_n (n := 0) X (by decide +kernel) 0 rfl ?_
  refine g_iload_n (n := 1) X (by decide +kernel) 1 rfl ?_
  obtain ⟨y2, e1, E⟩ := bp_E E
  refine g_callV1 (st := []) X [.int a1] (by decide +kernel) ml0_79 ho rfl rfl (by decide) (Nat.le_of_ble_eq_true rfl) (c0_netAt hK o a1 h ho e1) ?_
  refine s_qstore (i := 7) X (by decide +kernel) (by decide) rfl (ls_next (by decide) (Or.inr rfl) (ls_next (by decide) (Or.inr rfl) (ls_next (by decide) (Or.inr rfl) (ls_next (by decide) (Or.inr rfl) (ls_next (by decide) (Or.inr rfl) (ls_next (by decide) (Or.inr rfl) (ls_next (by decide) (Or.inr rfl) (ls_ins ls_end)))))))) ?_
  refine g_aload_n (n := 0) X (by decide +kernel) 0 rfl ?_
  refine g_iload_n (n := 2) X (by decide +kernel) 2 rfl ?_
  obtain ⟨y4, e3, E⟩ := bp_E E
  refine g_callV1 (st := []) X [.int a2] (by decide +kernel) ml0_113 ho rfl rfl (by decide) (Nat.le_of_ble_eq_true rfl) (c0_runAt hK o a2 h ho e3) ?_
  refine s_qstore (i := 8) X (by decide +kernel) (by decide) rfl (ls_next (by decide) (Or.inr rfl) (ls_next (by decide) (Or.inr rfl) (ls_next (by decide) (Or.inr rfl) (ls_next (by decide) (Or.inr rfl) (ls_next (by decide) (Or.inr rfl) (ls_next (by decide) (Or.inr rfl) (ls_next (by decide) (Or.inr rfl) (ls_next (by decide) (Or.inr (cat_rf _)) (ls_ins ls_end))))))))) ?_
  refine g_qload (n := 7) X (by decide +kernel) 7 rfl ?_
  rcases nl_E E with ⟨qo5, E⟩ | ⟨o5, qo5, E⟩
  · subst qo5
    refine g_ifnull_N (off := 31) (tgt := 47) X (by decide +kernel) (by decide) ?_
    refine g_iconst (n := -1) (x := (-1 : Int32)) X (by decide +kernel) (by decide) ?_
    obtain ⟨rfl, rfl⟩ := rt_E E
    exact g_ireturn X (by decide +kernel)
  · subst qo5
    obtain ⟨po5, E⟩ := gd_E E
    replace po5 := isO_of po5
    refine g_ifnull_R (off := 31) (tgt := 47) X (by decide +kernel) (by decide) ?_
    refine g_qload (n := 8) X (by decide +kernel) 8 rfl ?_
    rcases nl_E E with ⟨qo6, E⟩ | ⟨o6, qo6, E⟩
    · subst qo6
      refine g_ifnull_N (off := 26) (tgt := 47) X (by decide +kernel) (by decide) ?_
      refine g_iconst (n := -1) (x := (-1 : Int32)) X (by decide +kernel) (by decide) ?_
      obtain ⟨rfl, rfl⟩ := rt_E E
      exact g_ireturn X (by decide +kernel)
    · subst qo6
      obtain ⟨po6, E⟩ := gd_E E
      replace po6 := isO_of po6
      refine g_ifnull_R (off := 26) (tgt := 47) X (by decide +kernel) (by decide) ?_
      refine g_iload_n (n := 3) X (by decide +kernel) 3 rfl ?_
      rcases it_E E with ⟨c7, E⟩ | ⟨c7, E⟩
      · refine g_if_lt_t (off := 22) (tgt := 47) X (by decide +kernel) (by decide) c7 ?_
        refine g_iconst (n := -1) (x := (-1 : Int32)) X (by decide +kernel) (by decide) ?_
        obtain ⟨rfl, rfl⟩ := rt_E E
        exact g_ireturn X (by decide +kernel)
      · refine g_if_lt_f (off := 22) (tgt := 47) X (by decide +kernel) (by decide) c7 ?_
        refine g_iload_n (n := 3) X (by decide +kernel) 3 rfl ?_
        refine g_aload (n := 8) X (by decide +kernel) 8 rfl ?_
        refine g_getI X (by decide +kernel) fl0_117 po6 ?_
        rcases it_E E with ⟨c8, E⟩ | ⟨c8, E⟩
        · refine g_icmp_gt_t (off := 13) (tgt := 47) X (by decide +kernel) (by decide) c8 ?_
          refine g_iconst (n := -1) (x := (-1 : Int32)) X (by decide +kernel) (by decide) ?_
          obtain ⟨rfl, rfl⟩ := rt_E E
          exact g_ireturn X (by decide +kernel)
        · refine g_icmp_gt_f (off := 13) (tgt := 47) X (by decide +kernel) (by decide) c8 ?_
          refine g_aload (n := 7) X (by decide +kernel) 7 rfl ?_
          refine g_iload (n := 4) X (by decide +kernel) 4 rfl ?_
          refine g_callV1 (st := []) X [.int a4] (by decide +kernel) ml0_138 po5 rfl rfl (by decide) (Nat.le_of_ble_eq_true rfl) (c2_hasNode hK o5 a4 h po5) ?_
          rcases it_E E with ⟨c9, E⟩ | ⟨c9, E⟩
          · refine g_if_ne_f (off := 5) (tgt := 49) X (by decide +kernel) (by decide) (fun z => z c9) ?_
            refine g_iconst (n := -1) (x := (-1 : Int32)) X (by decide +kernel) (by decide) ?_
            obtain ⟨rfl, rfl⟩ := rt_E E
            exact g_ireturn X (by decide +kernel)
          · refine g_if_ne_t (off := 5) (tgt := 49) X (by decide +kernel) (by decide) c9 ?_
            refine g_aload_n (n := 0) X (by decide +kernel) 0 rfl ?_
            refine g_getS X (by decide +kernel) fl0_34 ho ?_
            refine g_aload (n := 7) X (by decide +kernel) 7 rfl ?_
            refine g_aload (n := 8) X (by decide +kernel) 8 rfl ?_
            refine g_iload_n (n := 3) X (by decide +kernel) 3 rfl ?_
            refine g_iconst (n := -1) (x := (-1 : Int32)) X (by decide +kernel) (by decide) ?_
            obtain ⟨y12, h11, e10, E⟩ := bd_E E
            refine g_callV1 (st := []) X [.ref o5, .ref o6, .int a3, .int (-1 : Int32)] (by decide +kernel) ml0_131 (ly hK ho fl0_34 rfl) rfl rfl (by decide) (Nat.le_of_ble_eq_true rfl) (c10_replay hK (o + 210) o5 o6 a3 (-1 : Int32) h (ly hK ho fl0_34 rfl) po5 po6 e10) ?_
            refine s_istore (i := 9) X (by decide +kernel) (by decide) rfl (ls_next (by decide) (Or.inr rfl) (ls_next (by decide) (Or.inr rfl) (ls_next (by decide) (Or.inr rfl) (ls_next (by decide) (Or.inr rfl) (ls_next (by decide) (Or.inr rfl) (ls_next (by decide) (Or.inr rfl) (ls_next (by decide) (Or.inr rfl) (ls_next (by decide) (Or.inr rfl) (ls_next (by decide) (Or.inr rfl) (ls_ins ls_end)))))))))) ?_
            refine g_aload_n (n := 0) X (by decide +kernel) 0 rfl ?_
            refine g_getS X (by decide +kernel) fl0_34 ho ?_
            refine g_getS X (by decide +kernel) fl0_142 (ly hK ho fl0_34 rfl) ?_
            refine g_iload (n := 4) X (by decide +kernel) 4 rfl ?_
            obtain ⟨c13, E⟩ := gd_E E
            obtain ⟨o14, qo14, po14, E⟩ := ob_E E
            refine g_aald (C := "AskedNames$Store") X (by decide +kernel) (ly hK (ly hK ho fl0_34 rfl) fl0_142 rfl) rfl rfl c13 qo14 ?_
            refine s_astore (i := 10) X (by decide +kernel) (by decide) rfl (ls_next (by decide) (Or.inr rfl) (ls_next (by decide) (Or.inr rfl) (ls_next (by decide) (Or.inr rfl) (ls_next (by decide) (Or.inr rfl) (ls_next (by decide) (Or.inr rfl) (ls_next (by decide) (Or.inr rfl) (ls_next (by decide) (Or.inr rfl) (ls_next (by decide) (Or.inr rfl) (ls_next (by decide) (Or.inr rfl) (ls_next (by decide) (Or.inr rfl) (ls_ins ls_end))))))))))) ?_
            refine g_iload (n := 9) X (by decide +kernel) 9 rfl ?_
            refine g_iload_n (n := 3) X (by decide +kernel) 3 rfl ?_
            rcases it_E E with ⟨c15, E⟩ | ⟨c15, E⟩
            · refine g_icmp_lt_t (off := 18) (tgt := 97) X (by decide +kernel) (by decide) c15 ?_
              refine g_iconst (n := -1) (x := (-1 : Int32)) X (by decide +kernel) (by decide) ?_
              obtain ⟨rfl, rfl⟩ := rt_E E
              exact g_ireturn X (by decide +kernel)
            · refine g_icmp_lt_f (off := 18) (tgt := 97) X (by decide +kernel) (by decide) c15 ?_
              refine g_iload (n := 5) X (by decide +kernel) 5 rfl ?_
              rcases it_E E with ⟨c16, E⟩ | ⟨c16, E⟩
              · refine g_if_lt_t (off := 13) (tgt := 97) X (by decide +kernel) (by decide) c16 ?_
                refine g_iconst (n := -1) (x := (-1 : Int32)) X (by decide +kernel) (by decide) ?_
                obtain ⟨rfl, rfl⟩ := rt_E E
                exact g_ireturn X (by decide +kernel)
              · refine g_if_lt_f (off := 13) (tgt := 97) X (by decide +kernel) (by decide) c16 ?_
                refine g_iload (n := 5) X (by decide +kernel) 5 rfl ?_
                refine g_aload (n := 10) X (by decide +kernel) 10 rfl ?_
                refine g_getI X (by decide +kernel) fl0_146 po14 ?_
                rcases it_E E with ⟨c17, E⟩ | ⟨c17, E⟩
                · refine g_icmp_lt_t (off := 5) (tgt := 99) X (by decide +kernel) (by decide) c17 ?_
                  refine g_iload (n := 6) X (by decide +kernel) 6 rfl ?_
                  rcases it_E E with ⟨c18, E⟩ | ⟨c18, E⟩
                  · refine g_tab_in (dflt := 54) (lo := 0) (hi := 2) (offs := #[27, 36, 45]) (len := 27) (off := 27) (tgt := 128) X (by decide +kernel) (by rw [c18]; decide) (by rw [c18]; decide) (by rw [c18]; decide) (by decide) ?_
                    refine g_aload (n := 10) X (by decide +kernel) 10 rfl ?_
                    refine g_getS X (by decide +kernel) fl0_151 po14 ?_
                    refine g_iload (n := 5) X (by decide +kernel) 5 rfl ?_
                    obtain ⟨c19, E⟩ := gd_E E
                    refine g_iald X (by decide +kernel) (ly hK po14 fl0_151 rfl) c19 ?_
                    obtain ⟨rfl, rfl⟩ := rt_E E
                    exact g_ireturn X (by decide +kernel)
                  · rcases it_E E with ⟨c20, E⟩ | ⟨c20, E⟩
                    · refine g_tab_in (dflt := 54) (lo := 0) (hi := 2) (offs := #[27, 36, 45]) (len := 27) (off := 36) (tgt := 137) X (by decide +kernel) (by rw [c20]; decide) (by rw [c20]; decide) (by rw [c20]; decide) (by decide) ?_
                      refine g_aload (n := 10) X (by decide +kernel) 10 rfl ?_
                      refine g_getS X (by decide +kernel) fl0_154 po14 ?_
                      refine g_iload (n := 5) X (by decide +kernel) 5 rfl ?_
                      obtain ⟨c21, E⟩ := gd_E E
                      refine g_iald X (by decide +kernel) (ly hK po14 fl0_154 rfl) c21 ?_
                      obtain ⟨rfl, rfl⟩ := rt_E E
                      exact g_ireturn X (by decide +kernel)
                    · rcases it_E E with ⟨c22, E⟩ | ⟨c22, E⟩
                      · refine g_tab_in (dflt := 54) (lo := 0) (hi := 2) (offs := #[27, 36, 45]) (len := 27) (off := 45) (tgt := 146) X (by decide +kernel) (by rw [c22]; decide) (by rw [c22]; decide) (by rw [c22]; decide) (by decide) ?_
                        refine g_aload (n := 10) X (by decide +kernel) 10 rfl ?_
                        refine g_getS X (by decide +kernel) fl0_157 po14 ?_
                        refine g_iload (n := 5) X (by decide +kernel) 5 rfl ?_
                        obtain ⟨c23, E⟩ := gd_E E
                        refine g_iald X (by decide +kernel) (ly hK po14 fl0_157 rfl) c23 ?_
                        obtain ⟨rfl, rfl⟩ := rt_E E
                        exact g_ireturn X (by decide +kernel)
                      · have z24 : a6.toInt < 0 ∨ 2 < a6.toInt := by
                          have z := sw_out (x := a6) 0 2 (by decide) (by decide) (by
                            intro j hj
                            have hj2 : j = 0 ∨ j = 1 ∨ j = 2 := by omega
                            rcases hj2 with rfl | rfl | rfl
                            · exact c18
                            · exact c20
                            · exact c22)
                          simpa using z
                        refine g_tab_out (dflt := 54) (lo := 0) (hi := 2) (offs := #[27, 36, 45]) (len := 27) (tgt := 155) X (by decide +kernel) z24 (by decide) ?_
                        refine g_iconst (n := -1) (x := (-1 : Int32)) X (by decide +kernel) (by decide) ?_
                        obtain ⟨rfl, rfl⟩ := rt_E E
                        exact g_ireturn X (by decide +kernel)
                · refine g_icmp_lt_f (off := 5) (tgt := 99) X (by decide +kernel) (by decide) c17 ?_
                  refine g_iconst (n := -1) (x := (-1 : Int32)) X (by decide +kernel) (by decide) ?_
                  obtain ⟨rfl, rfl⟩ := rt_E E
                  exact g_ireturn X (by decide +kernel)
-- AskedNames.entry
def f0_entry_J85 (K : Ly) (n : Nat)  (x6 : Int32) (s0 : Option Nat) (h : Hp) : Option (Int32 × Hp) :=
    nl s0 (
    some ((-1 : Int32), h)) fun o16 => gd (isO K o16 6) (
    some ((f6_look o16 x6 h), h))
def f0_entry (K : Ly) (n : Nat) (o : Nat) (a1 : Int32) (a2 : Int32) (a3 : Int32) (a4 : Int32) (a5 : Int32) (a6 : Int32) (h : Hp) : Option (Int32 × Hp) :=
    bp (f0_netAt K n o a1 h) fun y2 =>
    bp (f0_runAt K n o a2 h) fun y4 =>
    nl y2 (
    some ((-1 : Int32), h)) fun o5 => gd (isO K o5 2) (
    nl y4 (
    some ((-1 : Int32), h)) fun o6 => gd (isO K o6 3) (
    if a3 < 0 then (
    some ((-1 : Int32), h))
    else (
    if (h.1 o6 0) < a3 then (
    some ((-1 : Int32), h))
    else (
    if (f2_hasNode o5 a4 h) = 0 then (
    some ((-1 : Int32), h))
    else (
    bd (f10_replay K n (o + 210) o5 o6 a3 (-1 : Int32) h) fun y12 h11 =>
    if a3 ≤ y12 then (
    bp (f10_entryAt K n (o + 210) a4 a5 h11) fun y15 =>
    f0_entry_J85 K n a6 y15 h11)
    else (
    f0_entry_J85 K n a6 none h11))))))
set_option maxHeartbeats 4000000 in
set_option maxRecDepth 20000 in
theorem w0_entry_J85 {Γ : CT} {sp : Sp} {K : Ly} {sz n : Nat} {v : Int32} {hf : Hp}   (X : Ok Γ sp prog_1_method_11_code Rc0 11 (some (.int)) 8 (some (.int v)) sz K hf) (hK : LyOk K) (x6 : Int32) (s0 : Option Nat) (h : Hp)   (E : f0_entry_J85 K n x6 s0 h = some (v, hf)) : Go Γ (0, 0) 85 [(6, .int x6)] [va_rf s0] sz K h := by
  unfold f0_entry_J85 at E
  refine s_qstore (i := 10) X (by decide +kernel) (by decide) rfl (ls_next (by decide) (Or.inr rfl) (ls_ins ls_end)) ?_
  refine g_qload (n := 10) X (by decide +kernel) 1 rfl ?_
  rcases nl_E E with ⟨qo16, E⟩ | ⟨o16, qo16, E⟩
  · subst qo16
    refine g_ifnonnull_N (off := 7) (tgt := 96) X (by decide +kernel) (by decide) ?_
    refine g_iconst (n := -1) (x := (-1 : Int32)) X (by decide +kernel) (by decide) ?_
    refine g_goto (off := 10) (tgt := 103) X (by decide +kernel) (by decide) ?_
    obtain ⟨rfl, rfl⟩ := rt_E E
    exact g_ireturn X (by decide +kernel)
  · subst qo16
    obtain ⟨po16, E⟩ := gd_E E
    replace po16 := isO_of po16
    refine g_ifnonnull_R (off := 7) (tgt := 96) X (by decide +kernel) (by decide) ?_
    refine g_aload (n := 10) X (by decide +kernel) 1 rfl ?_
    refine g_iload (n := 6) X (by decide +kernel) 0 rfl ?_
    refine g_callV1 (st := []) X [.int x6] (by decide +kernel) ml0_164 po16 rfl rfl (by decide) (Nat.le_of_ble_eq_true rfl) (c6_look hK o16 x6 h po16) ?_
    obtain ⟨rfl, rfl⟩ := rt_E E
    exact g_ireturn X (by decide +kernel)
set_option maxHeartbeats 4000000 in
set_option maxRecDepth 20000 in
theorem c0_entry {sp : Sp} {K : Ly} {sz n : Nat} (hK : LyOk K) (o : Nat) (a1 : Int32) (a2 : Int32) (a3 : Int32) (a4 : Int32) (a5 : Int32) (a6 : Int32) (h : Hp) (ho : K o = some (.inl 0)) {v : Int32} {hf : Hp} (E : f0_entry K n o a1 a2 a3 a4 a5 a6 h = some (v, hf)) : Con sp y0_entry prog_1_method_11_code 11 (some (.int)) 8 0 0 [.ref o, .int a1, .int a2, .int a3, .int a4, .int a5, .int a6] sz K h (some (.int v)) sz K hf := by
  refine Con.of (by decide) (Nat.le_of_ble_eq_true rfl) (fun Γ X _ => ?_)
  show Go Γ (0, 0) 0 [(0, .ref o), (1, .int a1), (2, .int a2), (3, .int a3), (4, .int a4), (5, .int a5), (6, .int a6)] [] sz K h
  unfold f0_entry at E
  refine g_aload_n (n := 0) X (by decide +kernel) 0 rfl ?_
  refine g_iload_n (n := 1) X (by decide +kernel) 1 rfl ?_
  obtain ⟨y2, e1, E⟩ := bp_E E
  refine g_callV1 (st := []) X [.int a1] (by decide +kernel) ml0_79 ho rfl rfl (by decide) (Nat.le_of_ble_eq_true rfl) (c0_netAt hK o a1 h ho e1) ?_
  refine s_qstore (i := 7) X (by decide +kernel) (by decide) rfl (ls_next (by decide) (Or.inr rfl) (ls_next (by decide) (Or.inr rfl) (ls_next (by decide) (Or.inr rfl) (ls_next (by decide) (Or.inr rfl) (ls_next (by decide) (Or.inr rfl) (ls_next (by decide) (Or.inr rfl) (ls_next (by decide) (Or.inr rfl) (ls_ins ls_end)))))))) ?_
  refine g_aload_n (n := 0) X (by decide +kernel) 0 rfl ?_
  refine g_iload_n (n := 2) X (by decide +kernel) 2 rfl ?_
  obtain ⟨y4, e3, E⟩ := bp_E E
  refine g_callV1 (st := []) X [.int a2] (by decide +kernel) ml0_113 ho rfl rfl (by decide) (Nat.le_of_ble_eq_true rfl) (c0_runAt hK o a2 h ho e3) ?_
  refine s_qstore (i := 8) X (by decide +kernel) (by decide) rfl (ls_next (by decide) (Or.inr rfl) (ls_next (by decide) (Or.inr rfl) (ls_next (by decide) (Or.inr rfl) (ls_next (by decide) (Or.inr rfl) (ls_next (by decide) (Or.inr rfl) (ls_next (by decide) (Or.inr rfl) (ls_next (by decide) (Or.inr rfl) (ls_next (by decide) (Or.inr (cat_rf _)) (ls_ins ls_end))))))))) ?_
  refine g_qload (n := 7) X (by decide +kernel) 7 rfl ?_
  rcases nl_E E with ⟨qo5, E⟩ | ⟨o5, qo5, E⟩
  · subst qo5
    refine g_ifnull_N (off := 31) (tgt := 47) X (by decide +kernel) (by decide) ?_
    refine g_iconst (n := -1) (x := (-1 : Int32)) X (by decide +kernel) (by decide) ?_
    obtain ⟨rfl, rfl⟩ := rt_E E
    exact g_ireturn X (by decide +kernel)
  · subst qo5
    obtain ⟨po5, E⟩ := gd_E E
    replace po5 := isO_of po5
    refine g_ifnull_R (off := 31) (tgt := 47) X (by decide +kernel) (by decide) ?_
    refine g_qload (n := 8) X (by decide +kernel) 8 rfl ?_
    rcases nl_E E with ⟨qo6, E⟩ | ⟨o6, qo6, E⟩
    · subst qo6
      refine g_ifnull_N (off := 26) (tgt := 47) X (by decide +kernel) (by decide) ?_
      refine g_iconst (n := -1) (x := (-1 : Int32)) X (by decide +kernel) (by decide) ?_
      obtain ⟨rfl, rfl⟩ := rt_E E
      exact g_ireturn X (by decide +kernel)
    · subst qo6
      obtain ⟨po6, E⟩ := gd_E E
      replace po6 := isO_of po6
      refine g_ifnull_R (off := 26) (tgt := 47) X (by decide +kernel) (by decide) ?_
      refine g_iload_n (n := 3) X (by decide +kernel) 3 rfl ?_
      rcases it_E E with ⟨c7, E⟩ | ⟨c7, E⟩
      · refine g_if_lt_t (off := 22) (tgt := 47) X (by decide +kernel) (by decide) c7 ?_
        refine g_iconst (n := -1) (x := (-1 : Int32)) X (by decide +kernel) (by decide) ?_
        obtain ⟨rfl, rfl⟩ := rt_E E
        exact g_ireturn X (by decide +kernel)
      · refine g_if_lt_f (off := 22) (tgt := 47) X (by decide +kernel) (by decide) c7 ?_
        refine g_iload_n (n := 3) X (by decide +kernel) 3 rfl ?_
        refine g_aload (n := 8) X (by decide +kernel) 8 rfl ?_
        refine g_getI X (by decide +kernel) fl0_117 po6 ?_
        rcases it_E E with ⟨c8, E⟩ | ⟨c8, E⟩
        · refine g_icmp_gt_t (off := 13) (tgt := 47) X (by decide +kernel) (by decide) c8 ?_
          refine g_iconst (n := -1) (x := (-1 : Int32)) X (by decide +kernel) (by decide) ?_
          obtain ⟨rfl, rfl⟩ := rt_E E
          exact g_ireturn X (by decide +kernel)
        · refine g_icmp_gt_f (off := 13) (tgt := 47) X (by decide +kernel) (by decide) c8 ?_
          refine g_aload (n := 7) X (by decide +kernel) 7 rfl ?_
          refine g_iload (n := 4) X (by decide +kernel) 4 rfl ?_
          refine g_callV1 (st := []) X [.int a4] (by decide +kernel) ml0_138 po5 rfl rfl (by decide) (Nat.le_of_ble_eq_true rfl) (c2_hasNode hK o5 a4 h po5) ?_
          rcases it_E E with ⟨c9, E⟩ | ⟨c9, E⟩
          · refine g_if_ne_f (off := 5) (tgt := 49) X (by decide +kernel) (by decide) (fun z => z c9) ?_
            refine g_iconst (n := -1) (x := (-1 : Int32)) X (by decide +kernel) (by decide) ?_
            obtain ⟨rfl, rfl⟩ := rt_E E
            exact g_ireturn X (by decide +kernel)
          · refine g_if_ne_t (off := 5) (tgt := 49) X (by decide +kernel) (by decide) c9 ?_
            refine g_aload_n (n := 0) X (by decide +kernel) 0 rfl ?_
            refine g_getS X (by decide +kernel) fl0_34 ho ?_
            refine g_aload (n := 7) X (by decide +kernel) 7 rfl ?_
            refine g_aload (n := 8) X (by decide +kernel) 8 rfl ?_
            refine g_iload_n (n := 3) X (by decide +kernel) 3 rfl ?_
            refine g_iconst (n := -1) (x := (-1 : Int32)) X (by decide +kernel) (by decide) ?_
            obtain ⟨y12, h11, e10, E⟩ := bd_E E
            refine g_callV1 (st := []) X [.ref o5, .ref o6, .int a3, .int (-1 : Int32)] (by decide +kernel) ml0_131 (ly hK ho fl0_34 rfl) rfl rfl (by decide) (Nat.le_of_ble_eq_true rfl) (c10_replay hK (o + 210) o5 o6 a3 (-1 : Int32) h (ly hK ho fl0_34 rfl) po5 po6 e10) ?_
            refine s_istore (i := 9) X (by decide +kernel) (by decide) rfl (ls_next (by decide) (Or.inr rfl) (ls_next (by decide) (Or.inr rfl) (ls_next (by decide) (Or.inr rfl) (ls_next (by decide) (Or.inr rfl) (ls_next (by decide) (Or.inr rfl) (ls_next (by decide) (Or.inr rfl) (ls_next (by decide) (Or.inr rfl) (ls_next (by decide) (Or.inr rfl) (ls_next (by decide) (Or.inr rfl) (ls_ins ls_end)))))))))) ?_
            refine g_iload (n := 9) X (by decide +kernel) 9 rfl ?_
            refine g_iload_n (n := 3) X (by decide +kernel) 3 rfl ?_
            rcases it_E E with ⟨c13, E⟩ | ⟨c13, E⟩
            · refine g_icmp_ge_t (off := 7) (tgt := 74) X (by decide +kernel) (by decide) c13 ?_
              refine g_aload_n (n := 0) X (by decide +kernel) 0 rfl ?_
              refine g_getS X (by decide +kernel) fl0_34 ho ?_
              refine g_iload (n := 4) X (by decide +kernel) 4 rfl ?_
              refine g_iload (n := 5) X (by decide +kernel) 5 rfl ?_
              obtain ⟨y15, e14, E⟩ := bp_E E
              refine g_callV1 (st := []) X [.int a4, .int a5] (by decide +kernel) ml0_160 (ly hK ho fl0_34 rfl) rfl rfl (by decide) (Nat.le_of_ble_eq_true rfl) (c10_entryAt hK (o + 210) a4 a5 h11 (ly hK ho fl0_34 rfl) e14) ?_
              refine g_sub [6] rfl ?_
              exact w0_entry_J85 X hK a6 y15 h11 E
            · refine g_icmp_ge_f (off := 7) (tgt := 74) X (by decide +kernel) (by decide) c13 ?_
              refine g_null X (by decide +kernel) ?_
              refine g_goto (off := 14) (tgt := 85) X (by decide +kernel) (by decide) ?_
              refine g_sub [6] rfl ?_
              exact w0_entry_J85 X hK a6 none h11 E
-- AskedNames.why
def f0_why (K : Ly) (n : Nat) (o : Nat) (a1 : Int32) (a2 : Int32) (a3 : Int32) (a4 : Int32) (h : Hp) : Option (Int32 × Hp) :=
    bp (f0_netAt K n o a1 h) fun y2 =>
    bp (f0_runAt K n o a2 h) fun y4 =>
    nl y2 (
    some ((-2 : Int32), h)) fun o5 => gd (isO K o5 2) (
    nl y4 (
    some ((-2 : Int32), h)) fun o6 => gd (isO K o6 3) (
    if a3 < 0 then (
    some ((-2 : Int32), h))
    else (
    if (h.1 o6 0) ≤ a3 then (
    some ((-2 : Int32), h))
    else (
    bp (f3_asks K n o6 a3 h) fun y10 =>
    if y10 = 0 then (
    some ((-2 : Int32), h))
    else (
    bd (f10_replay K n (o + 210) o5 o6 (h.1 o6 0) (-1 : Int32) h) fun y14 h13 =>
    if a3 < y14 then (
    gd (inb a3 60) <|
    ob (h13.2.2 ((o + 210) + 21) a3.toNatClampNeg) K 9 fun o17 =>
    some ((f9_look o17 a4 h13), h13))
    else (
    some ((-2 : Int32), h13)))))))
set_option maxHeartbeats 4000000 in
set_option maxRecDepth 20000 in
theorem c0_why {sp : Sp} {K : Ly} {sz n : Nat} (hK : LyOk K) (o : Nat) (a1 : Int32) (a2 : Int32) (a3 : Int32) (a4 : Int32) (h : Hp) (ho : K o = some (.inl 0)) {v : Int32} {hf : Hp} (E : f0_why K n o a1 a2 a3 a4 h = some (v, hf)) : Con sp y0_why prog_1_method_12_code 8 (some (.int)) 8 0 0 [.ref o, .int a1, .int a2, .int a3, .int a4] sz K h (some (.int v)) sz K hf := by
  refine Con.of (by decide) (Nat.le_of_ble_eq_true rfl) (fun Γ X _ => ?_)
  show Go Γ (0, 0) 0 [(0, .ref o), (1, .int a1), (2, .int a2), (3, .int a3), (4, .int a4)] [] sz K h
  unfold f0_why at E
  refine g_aload_n (n := 0) X (by decide +kernel) 0 rfl ?_
  refine g_iload_n (n := 1) X (by decide +kernel) 1 rfl ?_
  obtain ⟨y2, e1, E⟩ := bp_E E
  refine g_callV1 (st := []) X [.int a1] (by decide +kernel) ml0_79 ho rfl rfl (by decide) (Nat.le_of_ble_eq_true rfl) (c0_netAt hK o a1 h ho e1) ?_
  refine s_qstore (i := 5) X (by decide +kernel) (by decide) rfl (ls_next (by decide) (Or.inr rfl) (ls_next (by decide) (Or.inr rfl) (ls_next (by decide) (Or.inr rfl) (ls_next (by decide) (Or.inr rfl) (ls_next (by decide) (Or.inr rfl) (ls_ins ls_end)))))) ?_
  refine g_aload_n (n := 0) X (by decide +kernel) 0 rfl ?_
  refine g_iload_n (n := 2) X (by decide +kernel) 2 rfl ?_
  obtain ⟨y4, e3, E⟩ := bp_E E
  refine g_callV1 (st := []) X [.int a2] (by decide +kernel) ml0_113 ho rfl rfl (by decide) (Nat.le_of_ble_eq_true rfl) (c0_runAt hK o a2 h ho e3) ?_
  refine s_qstore (i := 6) X (by decide +kernel) (by decide) rfl (ls_next (by decide) (Or.inr rfl) (ls_next (by decide) (Or.inr rfl) (ls_next (by decide) (Or.inr rfl) (ls_next (by decide) (Or.inr rfl) (ls_next (by decide) (Or.inr rfl) (ls_next (by decide) (Or.inr (cat_rf _)) (ls_ins ls_end))))))) ?_
  refine g_qload (n := 5) X (by decide +kernel) 5 rfl ?_
  rcases nl_E E with ⟨qo5, E⟩ | ⟨o5, qo5, E⟩
  · subst qo5
    refine g_ifnull_N (off := 30) (tgt := 46) X (by decide +kernel) (by decide) ?_
    refine g_bipush (n := -2) (x := (-2 : Int32)) X (by decide +kernel) (by decide) ?_
    obtain ⟨rfl, rfl⟩ := rt_E E
    exact g_ireturn X (by decide +kernel)
  · subst qo5
    obtain ⟨po5, E⟩ := gd_E E
    replace po5 := isO_of po5
    refine g_ifnull_R (off := 30) (tgt := 46) X (by decide +kernel) (by decide) ?_
    refine g_qload (n := 6) X (by decide +kernel) 6 rfl ?_
    rcases nl_E E with ⟨qo6, E⟩ | ⟨o6, qo6, E⟩
    · subst qo6
      refine g_ifnull_N (off := 25) (tgt := 46) X (by decide +kernel) (by decide) ?_
      refine g_bipush (n := -2) (x := (-2 : Int32)) X (by decide +kernel) (by decide) ?_
      obtain ⟨rfl, rfl⟩ := rt_E E
      exact g_ireturn X (by decide +kernel)
    · subst qo6
      obtain ⟨po6, E⟩ := gd_E E
      replace po6 := isO_of po6
      refine g_ifnull_R (off := 25) (tgt := 46) X (by decide +kernel) (by decide) ?_
      refine g_iload_n (n := 3) X (by decide +kernel) 3 rfl ?_
      rcases it_E E with ⟨c7, E⟩ | ⟨c7, E⟩
      · refine g_if_lt_t (off := 21) (tgt := 46) X (by decide +kernel) (by decide) c7 ?_
        refine g_bipush (n := -2) (x := (-2 : Int32)) X (by decide +kernel) (by decide) ?_
        obtain ⟨rfl, rfl⟩ := rt_E E
        exact g_ireturn X (by decide +kernel)
      · refine g_if_lt_f (off := 21) (tgt := 46) X (by decide +kernel) (by decide) c7 ?_
        refine g_iload_n (n := 3) X (by decide +kernel) 3 rfl ?_
        refine g_aload (n := 6) X (by decide +kernel) 6 rfl ?_
        refine g_getI X (by decide +kernel) fl0_117 po6 ?_
        rcases it_E E with ⟨c8, E⟩ | ⟨c8, E⟩
        · refine g_icmp_ge_t (off := 12) (tgt := 46) X (by decide +kernel) (by decide) c8 ?_
          refine g_bipush (n := -2) (x := (-2 : Int32)) X (by decide +kernel) (by decide) ?_
          obtain ⟨rfl, rfl⟩ := rt_E E
          exact g_ireturn X (by decide +kernel)
        · refine g_icmp_ge_f (off := 12) (tgt := 46) X (by decide +kernel) (by decide) c8 ?_
          refine g_aload (n := 6) X (by decide +kernel) 6 rfl ?_
          refine g_iload_n (n := 3) X (by decide +kernel) 3 rfl ?_
          obtain ⟨y10, e9, E⟩ := bp_E E
          refine g_callV1 (st := []) X [.int a3] (by decide +kernel) ml0_167 po6 rfl rfl (by decide) (Nat.le_of_ble_eq_true rfl) (c3_asks hK o6 a3 h po6 e9) ?_
          rcases it_E E with ⟨c11, E⟩ | ⟨c11, E⟩
          · refine g_if_ne_f (off := 6) (tgt := 49) X (by decide +kernel) (by decide) (fun z => z c11) ?_
            refine g_bipush (n := -2) (x := (-2 : Int32)) X (by decide +kernel) (by decide) ?_
            obtain ⟨rfl, rfl⟩ := rt_E E
            exact g_ireturn X (by decide +kernel)
          · refine g_if_ne_t (off := 6) (tgt := 49) X (by decide +kernel) (by decide) c11 ?_
            refine g_aload_n (n := 0) X (by decide +kernel) 0 rfl ?_
            refine g_getS X (by decide +kernel) fl0_34 ho ?_
            refine g_aload (n := 5) X (by decide +kernel) 5 rfl ?_
            refine g_aload (n := 6) X (by decide +kernel) 6 rfl ?_
            refine g_aload (n := 6) X (by decide +kernel) 6 rfl ?_
            refine g_getI X (by decide +kernel) fl0_117 po6 ?_
            refine g_iconst (n := -1) (x := (-1 : Int32)) X (by decide +kernel) (by decide) ?_
            obtain ⟨y14, h13, e12, E⟩ := bd_E E
            refine g_callV1 (st := []) X [.ref o5, .ref o6, .int (h.1 o6 0), .int (-1 : Int32)] (by decide +kernel) ml0_131 (ly hK ho fl0_34 rfl) rfl rfl (by decide) (Nat.le_of_ble_eq_true rfl) (c10_replay hK (o + 210) o5 o6 (h.1 o6 0) (-1 : Int32) h (ly hK ho fl0_34 rfl) po5 po6 e12) ?_
            refine s_istore (i := 7) X (by decide +kernel) (by decide) rfl (ls_next (by decide) (Or.inr rfl) (ls_next (by decide) (Or.inr rfl) (ls_next (by decide) (Or.inr rfl) (ls_next (by decide) (Or.inr rfl) (ls_next (by decide) (Or.inr rfl) (ls_next (by decide) (Or.inr rfl) (ls_next (by decide) (Or.inr rfl) (ls_ins ls_end)))))))) ?_
            refine g_iload_n (n := 3) X (by decide +kernel) 3 rfl ?_
            refine g_iload (n := 7) X (by decide +kernel) 7 rfl ?_
            rcases it_E E with ⟨c15, E⟩ | ⟨c15, E⟩
            · refine g_icmp_lt_t (off := 8) (tgt := 79) X (by decide +kernel) (by decide) c15 ?_
              refine g_aload_n (n := 0) X (by decide +kernel) 0 rfl ?_
              refine g_getS X (by decide +kernel) fl0_34 ho ?_
              refine g_getS X (by decide +kernel) fl0_170 (ly hK ho fl0_34 rfl) ?_
              refine g_iload_n (n := 3) X (by decide +kernel) 3 rfl ?_
              obtain ⟨c16, E⟩ := gd_E E
              obtain ⟨o17, qo17, po17, E⟩ := ob_E E
              refine g_aald (C := "AskedNames$Fate") X (by decide +kernel) (ly hK (ly hK ho fl0_34 rfl) fl0_170 rfl) rfl rfl c16 qo17 ?_
              refine g_iload (n := 4) X (by decide +kernel) 4 rfl ?_
              refine g_callV1 (st := []) X [.int a4] (by decide +kernel) ml0_174 po17 rfl rfl (by decide) (Nat.le_of_ble_eq_true rfl) (c9_look hK o17 a4 h13 po17) ?_
              obtain ⟨rfl, rfl⟩ := rt_E E
              exact g_ireturn X (by decide +kernel)
            · refine g_icmp_lt_f (off := 8) (tgt := 79) X (by decide +kernel) (by decide) c15 ?_
              refine g_bipush (n := -2) (x := (-2 : Int32)) X (by decide +kernel) (by decide) ?_
              refine g_goto (off := 17) (tgt := 93) X (by decide +kernel) (by decide) ?_
              obtain ⟨rfl, rfl⟩ := rt_E E
              exact g_ireturn X (by decide +kernel)
-- AskedNames.alone
def f0_alone_J42 (K : Ly) (n : Nat)  (x0 : Nat) (x2 : Int32) (x3 : Int32) (x4 : Int32) (x5 : Int32) (x6 : Nat) (h : Hp) : Option (Int32 × Hp) :=
    if x5 < 0 then (
    some ((-2 : Int32), h))
    else (
    if x5 ≤ (2 : Int32) then (
    bp (f10_askAlone K n (x0 + 210) x6 x2 x3 x4 h) fun h13 =>
    if x5 = (2 : Int32) then (
    some ((h13.1 ((x0 + 210) + 22) (0 : Int32).toNatClampNeg), h13))
    else (
    ob (h13.2.2 ((x0 + 210) + 21) (0 : Int32).toNatClampNeg) K 9 fun o15 =>
    some ((f9_look o15 x5 h13), h13)))
    else (
    some ((-2 : Int32), h)))
def f0_alone (K : Ly) (n : Nat) (o : Nat) (a1 : Int32) (a2 : Int32) (a3 : Int32) (a4 : Int32) (a5 : Int32) (h : Hp) : Option (Int32 × Hp) :=
    bp (f0_netAt K n o a1 h) fun y2 =>
    nl y2 (
    some ((-2 : Int32), h)) fun o3 => gd (isO K o3 2) (
    if (f2_hasNode o3 a2 h) = 0 then (
    some ((-2 : Int32), h))
    else (
    bp (f0_isName K n a3 h) fun y6 =>
    if y6 = 0 then (
    some ((-2 : Int32), h))
    else (
    if a4 = 0 then (
    f0_alone_J42 K n o a2 a3 a4 a5 o3 h)
    else (
    if a4 = (1 : Int32) then (
    f0_alone_J42 K n o a2 a3 a4 a5 o3 h)
    else (
    some ((-2 : Int32), h))))))
set_option maxHeartbeats 4000000 in
set_option maxRecDepth 20000 in
theorem w0_alone_J42 {Γ : CT} {sp : Sp} {K : Ly} {sz n : Nat} {v : Int32} {hf : Hp}   (X : Ok Γ sp prog_1_method_13_code Rc0 7 (some (.int)) 7 (some (.int v)) sz K hf) (hK : LyOk K) (x0 : Nat) (x2 : Int32) (x3 : Int32) (x4 : Int32) (x5 : Int32) (x6 : Nat) (h : Hp)  (px0 : K x0 = some (.inl 0)) (px6 : K x6 = some (.inl 2)) (E : f0_alone_J42 K n x0 x2 x3 x4 x5 x6 h = some (v, hf)) : Go Γ (0, 0) 42 [(0, .ref x0), (2, .int x2), (3, .int x3), (4, .int x4), (5, .int x5), (6, .ref x6)] [] sz K h := by
  unfold f0_alone_J42 at E
  refine g_iload (n := 5) X (by decide +kernel) 4 rfl ?_
  rcases it_E E with ⟨c10, E⟩ | ⟨c10, E⟩
  · refine g_if_lt_t (off := 9) (tgt := 53) X (by decide +kernel) (by decide) c10 ?_
    refine g_bipush (n := -2) (x := (-2 : Int32)) X (by decide +kernel) (by decide) ?_
    obtain ⟨rfl, rfl⟩ := rt_E E
    exact g_ireturn X (by decide +kernel)
  · refine g_if_lt_f (off := 9) (tgt := 53) X (by decide +kernel) (by decide) c10 ?_
    refine g_iload (n := 5) X (by decide +kernel) 4 rfl ?_
    refine g_iconst (n := 2) (x := (2 : Int32)) X (by decide +kernel) (by decide) ?_
    rcases it_E E with ⟨c11, E⟩ | ⟨c11, E⟩
    · refine g_icmp_le_t (off := 6) (tgt := 56) X (by decide +kernel) (by decide) c11 ?_
      refine g_aload_n (n := 0) X (by decide +kernel) 0 rfl ?_
      refine g_getS X (by decide +kernel) fl0_34 px0 ?_
      refine g_aload (n := 6) X (by decide +kernel) 5 rfl ?_
      refine g_iload_n (n := 2) X (by decide +kernel) 1 rfl ?_
      refine g_iload_n (n := 3) X (by decide +kernel) 2 rfl ?_
      refine g_iload (n := 4) X (by decide +kernel) 3 rfl ?_
      obtain ⟨h13, e12, E⟩ := bp_E E
      refine g_callV0 (st := []) X [.ref x6, .int x2, .int x3, .int x4] (by decide +kernel) ml0_180 (ly hK px0 fl0_34 rfl) rfl rfl (by decide) (Nat.le_of_ble_eq_true rfl) (c10_askAlone hK (x0 + 210) x6 x2 x3 x4 h (ly hK px0 fl0_34 rfl) px6 e12) ?_
      refine g_iload (n := 5) X (by decide +kernel) 4 rfl ?_
      refine g_iconst (n := 2) (x := (2 : Int32)) X (by decide +kernel) (by decide) ?_
      rcases it_E E with ⟨c14, E⟩ | ⟨c14, E⟩
      · refine g_icmp_ne_f (off := 15) (tgt := 87) X (by decide +kernel) (by decide) (fun z => z c14) ?_
        refine g_aload_n (n := 0) X (by decide +kernel) 0 rfl ?_
        refine g_getS X (by decide +kernel) fl0_34 px0 ?_
        refine g_getS X (by decide +kernel) fl0_184 (ly hK px0 fl0_34 rfl) ?_
        refine g_iconst (n := 0) (x := (0 : Int32)) X (by decide +kernel) (by decide) ?_
        refine g_iald X (by decide +kernel) (ly hK (ly hK px0 fl0_34 rfl) fl0_184 rfl) (by decide) ?_
        refine g_goto (off := 17) (tgt := 101) X (by decide +kernel) (by decide) ?_
        obtain ⟨rfl, rfl⟩ := rt_E E
        exact g_ireturn X (by decide +kernel)
      · refine g_icmp_ne_t (off := 15) (tgt := 87) X (by decide +kernel) (by decide) c14 ?_
        refine g_aload_n (n := 0) X (by decide +kernel) 0 rfl ?_
        refine g_getS X (by decide +kernel) fl0_34 px0 ?_
        refine g_getS X (by decide +kernel) fl0_170 (ly hK px0 fl0_34 rfl) ?_
        refine g_iconst (n := 0) (x := (0 : Int32)) X (by decide +kernel) (by decide) ?_
        obtain ⟨o15, qo15, po15, E⟩ := ob_E E
        refine g_aald (C := "AskedNames$Fate") X (by decide +kernel) (ly hK (ly hK px0 fl0_34 rfl) fl0_170 rfl) rfl rfl (by decide) qo15 ?_
        refine g_iload (n := 5) X (by decide +kernel) 4 rfl ?_
        refine g_callV1 (st := []) X [.int x5] (by decide +kernel) ml0_174 po15 rfl rfl (by decide) (Nat.le_of_ble_eq_true rfl) (c9_look hK o15 x5 h13 po15) ?_
        obtain ⟨rfl, rfl⟩ := rt_E E
        exact g_ireturn X (by decide +kernel)
    · refine g_icmp_le_f (off := 6) (tgt := 56) X (by decide +kernel) (by decide) c11 ?_
      refine g_bipush (n := -2) (x := (-2 : Int32)) X (by decide +kernel) (by decide) ?_
      obtain ⟨rfl, rfl⟩ := rt_E E
      exact g_ireturn X (by decide +kernel)
set_option maxHeartbeats 4000000 in
set_option maxRecDepth 20000 in
theorem c0_alone {sp : Sp} {K : Ly} {sz n : Nat} (hK : LyOk K) (o : Nat) (a1 : Int32) (a2 : Int32) (a3 : Int32) (a4 : Int32) (a5 : Int32) (h : Hp) (ho : K o = some (.inl 0)) {v : Int32} {hf : Hp} (E : f0_alone K n o a1 a2 a3 a4 a5 h = some (v, hf)) : Con sp y0_alone prog_1_method_13_code 7 (some (.int)) 7 0 0 [.ref o, .int a1, .int a2, .int a3, .int a4, .int a5] sz K h (some (.int v)) sz K hf := by
  refine Con.of (by decide) (Nat.le_of_ble_eq_true rfl) (fun Γ X _ => ?_)
  show Go Γ (0, 0) 0 [(0, .ref o), (1, .int a1), (2, .int a2), (3, .int a3), (4, .int a4), (5, .int a5)] [] sz K h
  unfold f0_alone at E
  refine g_aload_n (n := 0) X (by decide +kernel) 0 rfl ?_
  refine g_iload_n (n := 1) X (by decide +kernel) 1 rfl ?_
  obtain ⟨y2, e1, E⟩ := bp_E E
  refine g_callV1 (st := []) X [.int a1] (by decide +kernel) ml0_79 ho rfl rfl (by decide) (Nat.le_of_ble_eq_true rfl) (c0_netAt hK o a1 h ho e1) ?_
  refine s_qstore (i := 6) X (by decide +kernel) (by decide) rfl (ls_next (by decide) (Or.inr rfl) (ls_next (by decide) (Or.inr rfl) (ls_next (by decide) (Or.inr rfl) (ls_next (by decide) (Or.inr rfl) (ls_next (by decide) (Or.inr rfl) (ls_next (by decide) (Or.inr rfl) (ls_ins ls_end))))))) ?_
  refine g_qload (n := 6) X (by decide +kernel) 6 rfl ?_
  rcases nl_E E with ⟨qo3, E⟩ | ⟨o3, qo3, E⟩
  · subst qo3
    refine g_ifnull_N (off := 19) (tgt := 28) X (by decide +kernel) (by decide) ?_
    refine g_bipush (n := -2) (x := (-2 : Int32)) X (by decide +kernel) (by decide) ?_
    obtain ⟨rfl, rfl⟩ := rt_E E
    exact g_ireturn X (by decide +kernel)
  · subst qo3
    obtain ⟨po3, E⟩ := gd_E E
    replace po3 := isO_of po3
    refine g_ifnull_R (off := 19) (tgt := 28) X (by decide +kernel) (by decide) ?_
    refine g_aload (n := 6) X (by decide +kernel) 6 rfl ?_
    refine g_iload_n (n := 2) X (by decide +kernel) 2 rfl ?_
    refine g_callV1 (st := []) X [.int a2] (by decide +kernel) ml0_138 po3 rfl rfl (by decide) (Nat.le_of_ble_eq_true rfl) (c2_hasNode hK o3 a2 h po3) ?_
    rcases it_E E with ⟨c4, E⟩ | ⟨c4, E⟩
    · refine g_if_eq_t (off := 10) (tgt := 28) X (by decide +kernel) (by decide) c4 ?_
      refine g_bipush (n := -2) (x := (-2 : Int32)) X (by decide +kernel) (by decide) ?_
      obtain ⟨rfl, rfl⟩ := rt_E E
      exact g_ireturn X (by decide +kernel)
    · refine g_if_eq_f (off := 10) (tgt := 28) X (by decide +kernel) (by decide) c4 ?_
      refine g_iload_n (n := 3) X (by decide +kernel) 3 rfl ?_
      obtain ⟨y6, e5, E⟩ := bp_E E
      refine g_callS1 (st := []) X [.int a3] (by decide +kernel) ml0_177 (by decide) (Nat.le_of_ble_eq_true rfl) (c0_isName hK a3 h  e5) ?_
      rcases it_E E with ⟨c7, E⟩ | ⟨c7, E⟩
      · refine g_if_ne_f (off := 6) (tgt := 31) X (by decide +kernel) (by decide) (fun z => z c7) ?_
        refine g_bipush (n := -2) (x := (-2 : Int32)) X (by decide +kernel) (by decide) ?_
        obtain ⟨rfl, rfl⟩ := rt_E E
        exact g_ireturn X (by decide +kernel)
      · refine g_if_ne_t (off := 6) (tgt := 31) X (by decide +kernel) (by decide) c7 ?_
        refine g_iload (n := 4) X (by decide +kernel) 4 rfl ?_
        rcases it_E E with ⟨c8, E⟩ | ⟨c8, E⟩
        · refine g_if_eq_t (off := 9) (tgt := 42) X (by decide +kernel) (by decide) c8 ?_
          refine g_sub [0, 2, 3, 4, 5, 6] rfl ?_
          exact w0_alone_J42 X hK o a2 a3 a4 a5 o3 h ho po3 E
        · refine g_if_eq_f (off := 9) (tgt := 42) X (by decide +kernel) (by decide) c8 ?_
          refine g_iload (n := 4) X (by decide +kernel) 4 rfl ?_
          refine g_iconst (n := 1) (x := (1 : Int32)) X (by decide +kernel) (by decide) ?_
          rcases it_E E with ⟨c9, E⟩ | ⟨c9, E⟩
          · refine g_icmp_ne_f (off := 14) (tgt := 53) X (by decide +kernel) (by decide) (fun z => z c9) ?_
            refine g_sub [0, 2, 3, 4, 5, 6] rfl ?_
            exact w0_alone_J42 X hK o a2 a3 a4 a5 o3 h ho po3 E
          · refine g_icmp_ne_t (off := 14) (tgt := 53) X (by decide +kernel) (by decide) c9 ?_
            refine g_bipush (n := -2) (x := (-2 : Int32)) X (by decide +kernel) (by decide) ?_
            obtain ⟨rfl, rfl⟩ := rt_E E
            exact g_ireturn X (by decide +kernel)
-- AskedNames.table
def f0_table (K : Ly) (n : Nat) (o : Nat) (a1 : Int32) (a2 : Int32) (a3 : Int32) (h : Hp) : Option (Int32) :=
    bp (f0_netAt K n o a1 h) fun y2 =>
    nl y2 (
    some (-1 : Int32)) fun o3 => gd (isO K o3 2) (
    if (f2_hasNode o3 a2 h) = 0 then (
    some (-1 : Int32))
    else (
    if a3 = 0 then (
    bp (f2_rowsAt K n o3 a2 h) fun y7 =>
    some y7)
    else (
    if a3 = (1 : Int32) then (
    bp (f2_routesAt K n o3 a2 h) fun y10 =>
    some y10)
    else (
    some (-1 : Int32)))))
set_option maxHeartbeats 4000000 in
set_option maxRecDepth 20000 in
theorem c0_table {sp : Sp} {K : Ly} {sz n : Nat} (hK : LyOk K) (o : Nat) (a1 : Int32) (a2 : Int32) (a3 : Int32) (h : Hp) (ho : K o = some (.inl 0)) {v : Int32} (E : f0_table K n o a1 a2 a3 h = some v) : Con sp y0_table prog_1_method_14_code 5 (some (.int)) 4 0 0 [.ref o, .int a1, .int a2, .int a3] sz K h (some (.int v)) sz K h := by
  refine Con.of (by decide) (Nat.le_of_ble_eq_true rfl) (fun Γ X _ => ?_)
  show Go Γ (0, 0) 0 [(0, .ref o), (1, .int a1), (2, .int a2), (3, .int a3)] [] sz K h
  unfold f0_table at E
  refine g_aload_n (n := 0) X (by decide +kernel) 0 rfl ?_
  refine g_iload_n (n := 1) X (by decide +kernel) 1 rfl ?_
  obtain ⟨y2, e1, E⟩ := bp_E E
  refine g_callV1 (st := []) X [.int a1] (by decide +kernel) ml0_79 ho rfl rfl (by decide) (Nat.le_of_ble_eq_true rfl) (c0_netAt hK o a1 h ho e1) ?_
  refine s_qstore (i := 4) X (by decide +kernel) (by decide) rfl (ls_next (by decide) (Or.inr rfl) (ls_next (by decide) (Or.inr rfl) (ls_next (by decide) (Or.inr rfl) (ls_next (by decide) (Or.inr rfl) (ls_ins ls_end))))) ?_
  refine g_qload (n := 4) X (by decide +kernel) 4 rfl ?_
  rcases nl_E E with ⟨qo3, E⟩ | ⟨o3, qo3, E⟩
  · subst qo3
    refine g_ifnull_N (off := 12) (tgt := 21) X (by decide +kernel) (by decide) ?_
    refine g_iconst (n := -1) (x := (-1 : Int32)) X (by decide +kernel) (by decide) ?_
    obtain rfl := Option.some.inj E
    exact g_ireturn X (by decide +kernel)
  · subst qo3
    obtain ⟨po3, E⟩ := gd_E E
    replace po3 := isO_of po3
    refine g_ifnull_R (off := 12) (tgt := 21) X (by decide +kernel) (by decide) ?_
    refine g_aload (n := 4) X (by decide +kernel) 4 rfl ?_
    refine g_iload_n (n := 2) X (by decide +kernel) 2 rfl ?_
    refine g_callV1 (st := []) X [.int a2] (by decide +kernel) ml0_138 po3 rfl rfl (by decide) (Nat.le_of_ble_eq_true rfl) (c2_hasNode hK o3 a2 h po3) ?_
    rcases it_E E with ⟨c4, E⟩ | ⟨c4, E⟩
    · refine g_if_ne_f (off := 5) (tgt := 23) X (by decide +kernel) (by decide) (fun z => z c4) ?_
      refine g_iconst (n := -1) (x := (-1 : Int32)) X (by decide +kernel) (by decide) ?_
      obtain rfl := Option.some.inj E
      exact g_ireturn X (by decide +kernel)
    · refine g_if_ne_t (off := 5) (tgt := 23) X (by decide +kernel) (by decide) c4 ?_
      refine g_iload_n (n := 3) X (by decide +kernel) 3 rfl ?_
      rcases it_E E with ⟨c5, E⟩ | ⟨c5, E⟩
      · refine g_if_ne_f (off := 10) (tgt := 34) X (by decide +kernel) (by decide) (fun z => z c5) ?_
        refine g_aload (n := 4) X (by decide +kernel) 4 rfl ?_
        refine g_iload_n (n := 2) X (by decide +kernel) 2 rfl ?_
        obtain ⟨y7, e6, E⟩ := bp_E E
        refine g_callV1 (st := []) X [.int a2] (by decide +kernel) ml0_187 po3 rfl rfl (by decide) (Nat.le_of_ble_eq_true rfl) (c2_rowsAt hK o3 a2 h po3 e6) ?_
        obtain rfl := Option.some.inj E
        exact g_ireturn X (by decide +kernel)
      · refine g_if_ne_t (off := 10) (tgt := 34) X (by decide +kernel) (by decide) c5 ?_
        refine g_iload_n (n := 3) X (by decide +kernel) 3 rfl ?_
        refine g_iconst (n := 1) (x := (1 : Int32)) X (by decide +kernel) (by decide) ?_
        rcases it_E E with ⟨c8, E⟩ | ⟨c8, E⟩
        · refine g_icmp_ne_f (off := 12) (tgt := 48) X (by decide +kernel) (by decide) (fun z => z c8) ?_
          refine g_aload (n := 4) X (by decide +kernel) 4 rfl ?_
          refine g_iload_n (n := 2) X (by decide +kernel) 2 rfl ?_
          obtain ⟨y10, e9, E⟩ := bp_E E
          refine g_callV1 (st := []) X [.int a2] (by decide +kernel) ml0_190 po3 rfl rfl (by decide) (Nat.le_of_ble_eq_true rfl) (c2_routesAt hK o3 a2 h po3 e9) ?_
          refine g_goto (off := 4) (tgt := 49) X (by decide +kernel) (by decide) ?_
          obtain rfl := Option.some.inj E
          exact g_ireturn X (by decide +kernel)
        · refine g_icmp_ne_t (off := 12) (tgt := 48) X (by decide +kernel) (by decide) c8 ?_
          refine g_iconst (n := -1) (x := (-1 : Int32)) X (by decide +kernel) (by decide) ?_
          obtain rfl := Option.some.inj E
          exact g_ireturn X (by decide +kernel)
-- AskedNames.ways
def f0_ways (K : Ly) (n : Nat) (o : Nat) (a1 : Int32) (a2 : Int32) (a3 : Int32) (a4 : Int32) (h : Hp) : Option (Int32) :=
    bp (f0_netAt K n o a1 h) fun y2 =>
    nl y2 (
    some (-1 : Int32)) fun o3 => gd (isO K o3 2) (
    if (f2_hasNode o3 a2 h) = 0 then (
    some (-1 : Int32))
    else (
    bp (f0_isName K n a3 h) fun y6 =>
    if y6 = 0 then (
    some (-1 : Int32))
    else (
    bp (f2_routed K n o3 a2 a3 h) fun y9 =>
    if a4 = 0 then (
    bp (f2_waysFor K n o3 a2 y9 h) fun y12 =>
    some y12)
    else (
    bp (f0_lettersOf K n y9 h) fun y14 =>
    some y14))))
set_option maxHeartbeats 4000000 in
set_option maxRecDepth 20000 in
theorem c0_ways {sp : Sp} {K : Ly} {sz n : Nat} (hK : LyOk K) (o : Nat) (a1 : Int32) (a2 : Int32) (a3 : Int32) (a4 : Int32) (h : Hp) (ho : K o = some (.inl 0)) {v : Int32} (E : f0_ways K n o a1 a2 a3 a4 h = some v) : Con sp y0_ways prog_1_method_15_code 7 (some (.int)) 4 0 0 [.ref o, .int a1, .int a2, .int a3, .int a4] sz K h (some (.int v)) sz K h := by
  refine Con.of (by decide) (Nat.le_of_ble_eq_true rfl) (fun Γ X _ => ?_)
  show Go Γ (0, 0) 0 [(0, .ref o), (1, .int a1), (2, .int a2), (3, .int a3), (4, .int a4)] [] sz K h
  unfold f0_ways at E
  refine g_aload_n (n := 0) X (by decide +kernel) 0 rfl ?_
  refine g_iload_n (n := 1) X (by decide +kernel) 1 rfl ?_
  obtain ⟨y2, e1, E⟩ := bp_E E
  refine g_callV1 (st := []) X [.int a1] (by decide +kernel) ml0_79 ho rfl rfl (by decide) (Nat.le_of_ble_eq_true rfl) (c0_netAt hK o a1 h ho e1) ?_
  refine s_qstore (i := 5) X (by decide +kernel) (by decide) rfl (ls_next (by decide) (Or.inr rfl) (ls_next (by decide) (Or.inr rfl) (ls_next (by decide) (Or.inr rfl) (ls_next (by decide) (Or.inr rfl) (ls_next (by decide) (Or.inr rfl) (ls_ins ls_end)))))) ?_
  refine g_qload (n := 5) X (by decide +kernel) 5 rfl ?_
  rcases nl_E E with ⟨qo3, E⟩ | ⟨o3, qo3, E⟩
  · subst qo3
    refine g_ifnull_N (off := 19) (tgt := 28) X (by decide +kernel) (by decide) ?_
    refine g_iconst (n := -1) (x := (-1 : Int32)) X (by decide +kernel) (by decide) ?_
    obtain rfl := Option.some.inj E
    exact g_ireturn X (by decide +kernel)
  · subst qo3
    obtain ⟨po3, E⟩ := gd_E E
    replace po3 := isO_of po3
    refine g_ifnull_R (off := 19) (tgt := 28) X (by decide +kernel) (by decide) ?_
    refine g_aload (n := 5) X (by decide +kernel) 5 rfl ?_
    refine g_iload_n (n := 2) X (by decide +kernel) 2 rfl ?_
    refine g_callV1 (st := []) X [.int a2] (by decide +kernel) ml0_138 po3 rfl rfl (by decide) (Nat.le_of_ble_eq_true rfl) (c2_hasNode hK o3 a2 h po3) ?_
    rcases it_E E with ⟨c4, E⟩ | ⟨c4, E⟩
    · refine g_if_eq_t (off := 10) (tgt := 28) X (by decide +kernel) (by decide) c4 ?_
      refine g_iconst (n := -1) (x := (-1 : Int32)) X (by decide +kernel) (by decide) ?_
      obtain rfl := Option.some.inj E
      exact g_ireturn X (by decide +kernel)
    · refine g_if_eq_f (off := 10) (tgt := 28) X (by decide +kernel) (by decide) c4 ?_
      refine g_iload_n (n := 3) X (by decide +kernel) 3 rfl ?_
      obtain ⟨y6, e5, E⟩ := bp_E E
      refine g_callS1 (st := []) X [.int a3] (by decide +kernel) ml0_177 (by decide) (Nat.le_of_ble_eq_true rfl) (c0_isName hK a3 h  e5) ?_
      rcases it_E E with ⟨c7, E⟩ | ⟨c7, E⟩
      · refine g_if_ne_f (off := 5) (tgt := 30) X (by decide +kernel) (by decide) (fun z => z c7) ?_
        refine g_iconst (n := -1) (x := (-1 : Int32)) X (by decide +kernel) (by decide) ?_
        obtain rfl := Option.some.inj E
        exact g_ireturn X (by decide +kernel)
      · refine g_if_ne_t (off := 5) (tgt := 30) X (by decide +kernel) (by decide) c7 ?_
        refine g_aload (n := 5) X (by decide +kernel) 5 rfl ?_
        refine g_iload_n (n := 2) X (by decide +kernel) 2 rfl ?_
        refine g_iload_n (n := 3) X (by decide +kernel) 3 rfl ?_
        obtain ⟨y9, e8, E⟩ := bp_E E
        refine g_callV1 (st := []) X [.int a2, .int a3] (by decide +kernel) ml0_193 po3 rfl rfl (by decide) (Nat.le_of_ble_eq_true rfl) (c2_routed hK o3 a2 a3 h po3 e8) ?_
        refine s_istore (i := 6) X (by decide +kernel) (by decide) rfl (ls_next (by decide) (Or.inr rfl) (ls_next (by decide) (Or.inr rfl) (ls_next (by decide) (Or.inr rfl) (ls_next (by decide) (Or.inr rfl) (ls_next (by decide) (Or.inr rfl) (ls_next (by decide) (Or.inr rfl) (ls_ins ls_end))))))) ?_
        refine g_iload (n := 4) X (by decide +kernel) 4 rfl ?_
        rcases it_E E with ⟨c10, E⟩ | ⟨c10, E⟩
        · refine g_if_eq_t (off := 11) (tgt := 52) X (by decide +kernel) (by decide) c10 ?_
          refine g_aload (n := 5) X (by decide +kernel) 5 rfl ?_
          refine g_iload_n (n := 2) X (by decide +kernel) 2 rfl ?_
          refine g_iload (n := 6) X (by decide +kernel) 6 rfl ?_
          obtain ⟨y12, e11, E⟩ := bp_E E
          refine g_callV1 (st := []) X [.int a2, .int y9] (by decide +kernel) ml0_200 po3 rfl rfl (by decide) (Nat.le_of_ble_eq_true rfl) (c2_waysFor hK o3 a2 y9 h po3 e11) ?_
          obtain rfl := Option.some.inj E
          exact g_ireturn X (by decide +kernel)
        · refine g_if_eq_f (off := 11) (tgt := 52) X (by decide +kernel) (by decide) c10 ?_
          refine g_iload (n := 6) X (by decide +kernel) 6 rfl ?_
          obtain ⟨y14, e13, E⟩ := bp_E E
          refine g_callS1 (st := []) X [.int y9] (by decide +kernel) ml0_197 (by decide) (Nat.le_of_ble_eq_true rfl) (c0_lettersOf hK y9 h  e13) ?_
          refine g_goto (off := 11) (tgt := 60) X (by decide +kernel) (by decide) ?_
          obtain rfl := Option.some.inj E
          exact g_ireturn X (by decide +kernel)
-- AskedNames.trail
def f0_trail_J173 (K : Ly) (n : Nat)  (x0 : Nat) (x4 : Int32) (x9 : Int32) (x10 : Int32) (h : Hp) : Option (Int32 × Hp) :=
    if x4 = (-1 : Int32) then (
    some (x9, h))
    else (
    if x4 = (20 : Int32) then (
    some (x10, h))
    else (
    if x4 < 0 then (
    some ((-1 : Int32), h))
    else (
    if x9 ≤ x4 then (
    some ((-1 : Int32), h))
    else (
    gd (inb x4 7) <|
    some ((h.1 (x0 + 1037) x4.toNatClampNeg), h)))))
def f0_trail_L58 (K : Ly) (n : Nat) (x0 : Nat) (x3 : Int32) (x4 : Int32) (x5 : Nat)   : Nat → Int32 → Int32 → Int32 → Int32 → Int32 → Int32 → Hp → Option (Int32 × Hp)
  | 0, _, _, _, _, _, _, _ => none
  | k + 1, x6, x7, x8, x9, x10, x11, h =>
    if (7 : Int32) ≤ x11 then (
    f0_trail_J173 K n x0 x4 x9 x10 h)
    else (
    if x10 = 0 then (
    gd (inb x11 7) <|
    lt (sI h (x0 + 1037) x11.toNatClampNeg x8) fun h13 =>
    lt (x11 + (1 : Int32)) fun x9_14 =>
    bp (f10_bestWay K n (x0 + 210) x8 x3 x7 h13) fun y16 =>
    if (x6 &&& ((1 : Int32) <<< (x8 &&& 31))) = 0 then (
    bp (f2_serving K n x5 x8 x3 h13) fun y19 =>
    lt (x11 + (1 : Int32)) fun x11_22 =>
    f0_trail_L58 K n x0 x3 x4 x5  k (if y19 = (-1 : Int32) then (if y16 = (-1 : Int32) then x6 else (x6 ||| ((1 : Int32) <<< (x8 &&& 31)))) else x6) (if y19 = (-1 : Int32) then (if y16 = (-1 : Int32) then x7 else ((1 : Int32) <<< (x8 &&& 31))) else x7) (if y19 = (-1 : Int32) then (if y16 = (-1 : Int32) then x8 else y16) else x8) x9_14 (if y19 = (-1 : Int32) then (if y16 = (-1 : Int32) then (2 : Int32) else x10) else (1 : Int32)) x11_22 h13)
    else (
    lt (x11 + (1 : Int32)) fun x11_23 =>
    f0_trail_L58 K n x0 x3 x4 x5  k x6 x7 x8 x9_14 (3 : Int32) x11_23 h13))
    else (
    f0_trail_J173 K n x0 x4 x9 x10 h))
def f0_trail (K : Ly) (n : Nat) (o : Nat) (a1 : Int32) (a2 : Int32) (a3 : Int32) (a4 : Int32) (h : Hp) : Option (Int32 × Hp) :=
    bp (f0_netAt K n o a1 h) fun y2 =>
    nl y2 (
    some ((-1 : Int32), h)) fun o3 => gd (isO K o3 2) (
    if (f2_hasNode o3 a2 h) = 0 then (
    some ((-1 : Int32), h))
    else (
    bp (f0_isName K n a3 h) fun y6 =>
    if y6 = 0 then (
    some ((-1 : Int32), h))
    else (
    bp (f10_begin K n (o + 210) o3 (-1 : Int32) h) fun h9 =>
    f0_trail_L58 K n o a3 a4 o3 n (0 : Int32) (0 : Int32) a2 (0 : Int32) (0 : Int32) (0 : Int32) h9)))
set_option maxHeartbeats 4000000 in
set_option maxRecDepth 20000 in
theorem w0_trail_J173 {Γ : CT} {sp : Sp} {K : Ly} {sz n : Nat} {v : Int32} {hf : Hp}   (X : Ok Γ sp prog_1_method_16_code Rc0 13 (some (.int)) 3 (some (.int v)) sz K hf) (hK : LyOk K) (x0 : Nat) (x4 : Int32) (x9 : Int32) (x10 : Int32) (h : Hp)  (px0 : K x0 = some (.inl 0)) (E : f0_trail_J173 K n x0 x4 x9 x10 h = some (v, hf)) : Go Γ (0, 0) 173 [(0, .ref x0), (4, .int x4), (9, .int x9), (10, .int x10)] [] sz K h := by
  unfold f0_trail_J173 at E
  refine g_iload (n := 4) X (by decide +kernel) 1 rfl ?_
  refine g_iconst (n := -1) (x := (-1 : Int32)) X (by decide +kernel) (by decide) ?_
  rcases it_E E with ⟨c24, E⟩ | ⟨c24, E⟩
  · refine g_icmp_ne_f (off := 6) (tgt := 182) X (by decide +kernel) (by decide) (fun z => z c24) ?_
    refine g_iload (n := 9) X (by decide +kernel) 2 rfl ?_
    obtain ⟨rfl, rfl⟩ := rt_E E
    exact g_ireturn X (by decide +kernel)
  · refine g_icmp_ne_t (off := 6) (tgt := 182) X (by decide +kernel) (by decide) c24 ?_
    refine g_iload (n := 4) X (by decide +kernel) 1 rfl ?_
    refine g_bipush (n := 20) (x := (20 : Int32)) X (by decide +kernel) (by decide) ?_
    rcases it_E E with ⟨c25, E⟩ | ⟨c25, E⟩
    · refine g_icmp_ne_f (off := 6) (tgt := 192) X (by decide +kernel) (by decide) (fun z => z c25) ?_
      refine g_iload (n := 10) X (by decide +kernel) 3 rfl ?_
      obtain ⟨rfl, rfl⟩ := rt_E E
      exact g_ireturn X (by decide +kernel)
    · refine g_icmp_ne_t (off := 6) (tgt := 192) X (by decide +kernel) (by decide) c25 ?_
      refine g_iload (n := 4) X (by decide +kernel) 1 rfl ?_
      rcases it_E E with ⟨c26, E⟩ | ⟨c26, E⟩
      · refine g_if_lt_t (off := 20) (tgt := 214) X (by decide +kernel) (by decide) c26 ?_
        refine g_iconst (n := -1) (x := (-1 : Int32)) X (by decide +kernel) (by decide) ?_
        obtain ⟨rfl, rfl⟩ := rt_E E
        exact g_ireturn X (by decide +kernel)
      · refine g_if_lt_f (off := 20) (tgt := 214) X (by decide +kernel) (by decide) c26 ?_
        refine g_iload (n := 4) X (by decide +kernel) 1 rfl ?_
        refine g_iload (n := 9) X (by decide +kernel) 2 rfl ?_
        rcases it_E E with ⟨c27, E⟩ | ⟨c27, E⟩
        · refine g_icmp_ge_t (off := 13) (tgt := 214) X (by decide +kernel) (by decide) c27 ?_
          refine g_iconst (n := -1) (x := (-1 : Int32)) X (by decide +kernel) (by decide) ?_
          obtain ⟨rfl, rfl⟩ := rt_E E
          exact g_ireturn X (by decide +kernel)
        · refine g_icmp_ge_f (off := 13) (tgt := 214) X (by decide +kernel) (by decide) c27 ?_
          refine g_aload_n (n := 0) X (by decide +kernel) 0 rfl ?_
          refine g_getS X (by decide +kernel) fl0_38 px0 ?_
          refine g_iload (n := 4) X (by decide +kernel) 1 rfl ?_
          obtain ⟨c28, E⟩ := gd_E E
          refine g_iald X (by decide +kernel) (ly hK px0 fl0_38 rfl) c28 ?_
          refine g_goto (off := 4) (tgt := 215) X (by decide +kernel) (by decide) ?_
          obtain ⟨rfl, rfl⟩ := rt_E E
          exact g_ireturn X (by decide +kernel)
set_option maxHeartbeats 4000000 in
set_option maxRecDepth 20000 in
theorem w0_trail_L58 {Γ : CT} {sp : Sp} {K : Ly} {sz n : Nat} {v : Int32} {hf : Hp}  (X : Ok Γ sp prog_1_method_16_code Rc0 13 (some (.int)) 3 (some (.int v)) sz K hf) (hK : LyOk K) (x0 : Nat) (x3 : Int32) (x4 : Int32) (x5 : Nat)  (px0 : K x0 = some (.inl 0)) (px5 : K x5 = some (.inl 2))  : ∀ (k : Nat) (x6 : Int32) (x7 : Int32) (x8 : Int32) (x9 : Int32) (x10 : Int32) (x11 : Int32) (h : Hp), f0_trail_L58 K n x0 x3 x4 x5  k x6 x7 x8 x9 x10 x11 h = some (v, hf) → Go Γ (0, 0) 58 [(0, .ref x0), (3, .int x3), (4, .int x4), (5, .ref x5), (6, .int x6), (7, .int x7), (8, .int x8), (9, .int x9), (10, .int x10), (11, .int x11)] [] sz K h := by
  intro k
  induction k with
  | zero => intro x6 x7 x8 x9 x10 x11 h E; cases E
  | succ k ih =>
    intro x6 x7 x8 x9 x10 x11 h E
    unfold f0_trail_L58 at E
    refine g_iload (n := 11) X (by decide +kernel) 9 rfl ?_
    refine g_aload_n (n := 0) X (by decide +kernel) 0 rfl ?_
    refine g_getS X (by decide +kernel) fl0_38 px0 ?_
    refine g_alen (x := (7 : Int32)) X (by decide +kernel) (ly hK px0 fl0_38 rfl) ⟨_, rfl⟩ (by decide) ?_
    rcases it_E E with ⟨c10, E⟩ | ⟨c10, E⟩
    · refine g_icmp_ge_t (off := 108) (tgt := 173) X (by decide +kernel) (by decide) c10 ?_
      refine g_sub [0, 2, 7, 8] rfl ?_
      exact w0_trail_J173 X hK x0 x4 x9 x10 h px0 E
    · refine g_icmp_ge_f (off := 108) (tgt := 173) X (by decide +kernel) (by decide) c10 ?_
      refine g_iload (n := 10) X (by decide +kernel) 8 rfl ?_
      rcases it_E E with ⟨c11, E⟩ | ⟨c11, E⟩
      · refine g_if_ne_f (off := 103) (tgt := 173) X (by decide +kernel) (by decide) (fun z => z c11) ?_
        refine g_aload_n (n := 0) X (by decide +kernel) 0 rfl ?_
        refine g_getS X (by decide +kernel) fl0_38 px0 ?_
        refine g_iload (n := 11) X (by decide +kernel) 9 rfl ?_
        refine g_iload (n := 8) X (by decide +kernel) 6 rfl ?_
        obtain ⟨c12, E⟩ := gd_E E
        obtain ⟨h13, eh13, E⟩ := lt_E E
        refine g_iast X (by decide +kernel) (ly hK px0 fl0_38 rfl) c12 eh13 ?_
        refine g_iload (n := 11) X (by decide +kernel) 9 rfl ?_
        refine g_iconst (n := 1) (x := (1 : Int32)) X (by decide +kernel) (by decide) ?_
        refine g_iadd X (by decide +kernel) ?_
        obtain ⟨x9_14, ex9_14, E⟩ := lt_E E
        refine s_istore (i := 9) X (by decide +kernel) (by decide) ex9_14 (ls_next (by decide) (Or.inr rfl) (ls_next (by decide) (Or.inr rfl) (ls_next (by decide) (Or.inr rfl) (ls_next (by decide) (Or.inr rfl) (ls_next (by decide) (Or.inr rfl) (ls_next (by decide) (Or.inr rfl) (ls_next (by decide) (Or.inr rfl) (ls_here (ls_next (by decide) (Or.inr rfl) (ls_next (by decide) (Or.inr rfl) ls_end)))))))))) ?_
        refine g_aload_n (n := 0) X (by decide +kernel) 0 rfl ?_
        refine g_getS X (by decide +kernel) fl0_34 px0 ?_
        refine g_iload (n := 8) X (by decide +kernel) 6 rfl ?_
        refine g_iload_n (n := 3) X (by decide +kernel) 1 rfl ?_
        refine g_iload (n := 7) X (by decide +kernel) 5 rfl ?_
        obtain ⟨y16, e15, E⟩ := bp_E E
        refine g_callV1 (st := []) X [.int x8, .int x3, .int x7] (by decide +kernel) ml0_207 (ly hK px0 fl0_34 rfl) rfl rfl (by decide) (Nat.le_of_ble_eq_true rfl) (c10_bestWay hK (x0 + 210) x8 x3 x7 h13 (ly hK px0 fl0_34 rfl) e15) ?_
        refine s_istore (i := 12) X (by decide +kernel) (by decide) rfl (ls_next (by decide) (Or.inr rfl) (ls_next (by decide) (Or.inr rfl) (ls_next (by decide) (Or.inr rfl) (ls_next (by decide) (Or.inr rfl) (ls_next (by decide) (Or.inr rfl) (ls_next (by decide) (Or.inr rfl) (ls_next (by decide) (Or.inr rfl) (ls_next (by decide) (Or.inr rfl) (ls_next (by decide) (Or.inr rfl) (ls_next (by decide) (Or.inr rfl) (ls_ins ls_end))))))))))) ?_
        refine g_iload (n := 6) X (by decide +kernel) 4 rfl ?_
        refine g_iconst (n := 1) (x := (1 : Int32)) X (by decide +kernel) (by decide) ?_
        refine g_iload (n := 8) X (by decide +kernel) 6 rfl ?_
        refine g_ishl X (by decide +kernel) ?_
        refine g_iand X (by decide +kernel) ?_
        rcases it_E E with ⟨c17, E⟩ | ⟨c17, E⟩
        · refine g_if_eq_t (off := 9) (tgt := 118) X (by decide +kernel) (by decide) c17 ?_
          refine g_aload (n := 5) X (by decide +kernel) 3 rfl ?_
          refine g_iload (n := 8) X (by decide +kernel) 6 rfl ?_
          refine g_iload_n (n := 3) X (by decide +kernel) 1 rfl ?_
          obtain ⟨y19, e18, E⟩ := bp_E E
          refine g_callV1 (st := []) X [.int x8, .int x3] (by decide +kernel) ml0_211 px5 rfl rfl (by decide) (Nat.le_of_ble_eq_true rfl) (c2_serving hK x5 x8 x3 h13 px5 e18) ?_
          refine g_iconst (n := -1) (x := (-1 : Int32)) X (by decide +kernel) (by decide) ?_
          have hJ : Go Γ (0, 0) 167 [(0, .ref x0), (3, .int x3), (4, .int x4), (5, .ref x5), (6, .int (if y19 = (-1 : Int32) then (if y16 = (-1 : Int32) then x6 else (x6 ||| ((1 : Int32) <<< (x8 &&& 31)))) else x6)), (7, .int (if y19 = (-1 : Int32) then (if y16 = (-1 : Int32) then x7 else ((1 : Int32) <<< (x8 &&& 31))) else x7)), (8, .int (if y19 = (-1 : Int32) then (if y16 = (-1 : Int32) then x8 else y16) else x8)), (9, .int x9_14), (10, .int (if y19 = (-1 : Int32) then (if y16 = (-1 : Int32) then (2 : Int32) else x10) else (1 : Int32))), (11, .int x11)] [] sz K h13 := by
            obtain ⟨x11_22, ex11_22, E⟩ := lt_E E
            refine s_iinc (i := 11) (n := 1) (y := x11_22) X (by decide +kernel) 9 rfl (by decide) ex11_22 (ls_next (by decide) (Or.inr rfl) (ls_next (by decide) (Or.inr rfl) (ls_next (by decide) (Or.inr rfl) (ls_next (by decide) (Or.inr rfl) (ls_next (by decide) (Or.inr rfl) (ls_next (by decide) (Or.inr rfl) (ls_next (by decide) (Or.inr rfl) (ls_next (by decide) (Or.inr rfl) (ls_next (by decide) (Or.inr rfl) (ls_here ls_end)))))))))) ?_
            refine g_goto (off := -112) (tgt := 58) X (by decide +kernel) (by decide) ?_
            exact ih (if y19 = (-1 : Int32) then (if y16 = (-1 : Int32) then x6 else (x6 ||| ((1 : Int32) <<< (x8 &&& 31)))) else x6) (if y19 = (-1 : Int32) then (if y16 = (-1 : Int32) then x7 else ((1 : Int32) <<< (x8 &&& 31))) else x7) (if y19 = (-1 : Int32) then (if y16 = (-1 : Int32) then x8 else y16) else x8) x9_14 (if y19 = (-1 : Int32) then (if y16 = (-1 : Int32) then (2 : Int32) else x10) else (1 : Int32)) x11_22 h13  E
          clear E
          by_cases c20 : y19 = (-1 : Int32)
          · rw [if_pos c20, if_pos c20, if_pos c20, if_pos c20] at hJ
            refine g_icmp_eq_t (off := 9) (tgt := 136) X (by decide +kernel) (by decide) c20 ?_
            refine g_iload (n := 12) X (by decide +kernel) 10 rfl ?_
            refine g_iconst (n := -1) (x := (-1 : Int32)) X (by decide +kernel) (by decide) ?_
            by_cases c21 : y16 = (-1 : Int32)
            · rw [if_pos c21, if_pos c21, if_pos c21, if_pos c21] at hJ
              refine g_icmp_ne_f (off := 9) (tgt := 148) X (by decide +kernel) (by decide) (fun z => z c21) ?_
              refine g_iconst (n := 2) (x := (2 : Int32)) X (by decide +kernel) (by decide) ?_
              refine s_istore (i := 10) X (by decide +kernel) (by decide) rfl (ls_next (by decide) (Or.inr rfl) (ls_next (by decide) (Or.inr rfl) (ls_next (by decide) (Or.inr rfl) (ls_next (by decide) (Or.inr rfl) (ls_next (by decide) (Or.inr rfl) (ls_next (by decide) (Or.inr rfl) (ls_next (by decide) (Or.inr rfl) (ls_next (by decide) (Or.inr rfl) (ls_here (ls_next (by decide) (Or.inr rfl) (ls_next (by decide) (Or.inr rfl) ls_end))))))))))) ?_
              refine g_goto (off := 22) (tgt := 167) X (by decide +kernel) (by decide) ?_
              refine g_sub [0, 1, 2, 3, 4, 5, 6, 7, 8, 9] rfl ?_
              exact hJ
            · rw [if_neg c21, if_neg c21, if_neg c21, if_neg c21] at hJ
              refine g_icmp_ne_t (off := 9) (tgt := 148) X (by decide +kernel) (by decide) c21 ?_
              refine g_iload (n := 6) X (by decide +kernel) 4 rfl ?_
              refine g_iconst (n := 1) (x := (1 : Int32)) X (by decide +kernel) (by decide) ?_
              refine g_iload (n := 8) X (by decide +kernel) 6 rfl ?_
              refine g_ishl X (by decide +kernel) ?_
              refine g_ior X (by decide +kernel) ?_
              refine s_istore (i := 6) X (by decide +kernel) (by decide) rfl (ls_next (by decide) (Or.inr rfl) (ls_next (by decide) (Or.inr rfl) (ls_next (by decide) (Or.inr rfl) (ls_next (by decide) (Or.inr rfl) (ls_here (ls_next (by decide) (Or.inr rfl) (ls_next (by decide) (Or.inr rfl) (ls_next (by decide) (Or.inr rfl) (ls_next (by decide) (Or.inr rfl) (ls_next (by decide) (Or.inr rfl) (ls_next (by decide) (Or.inr rfl) ls_end))))))))))) ?_
              refine g_iconst (n := 1) (x := (1 : Int32)) X (by decide +kernel) (by decide) ?_
              refine g_iload (n := 8) X (by decide +kernel) 6 rfl ?_
              refine g_ishl X (by decide +kernel) ?_
              refine s_istore (i := 7) X (by decide +kernel) (by decide) rfl (ls_next (by decide) (Or.inr rfl) (ls_next (by decide) (Or.inr rfl) (ls_next (by decide) (Or.inr rfl) (ls_next (by decide) (Or.inr rfl) (ls_next (by decide) (Or.inr rfl) (ls_here (ls_next (by decide) (Or.inr rfl) (ls_next (by decide) (Or.inr rfl) (ls_next (by decide) (Or.inr rfl) (ls_next (by decide) (Or.inr rfl) (ls_next (by decide) (Or.inr rfl) ls_end))))))))))) ?_
              refine g_iload (n := 12) X (by decide +kernel) 10 rfl ?_
              refine s_istore (i := 8) X (by decide +kernel) (by decide) rfl (ls_next (by decide) (Or.inr rfl) (ls_next (by decide) (Or.inr rfl) (ls_next (by decide) (Or.inr rfl) (ls_next (by decide) (Or.inr rfl) (ls_next (by decide) (Or.inr rfl) (ls_next (by decide) (Or.inr rfl) (ls_here (ls_next (by decide) (Or.inr rfl) (ls_next (by decide) (Or.inr rfl) (ls_next (by decide) (Or.inr rfl) (ls_next (by decide) (Or.inr rfl) ls_end))))))))))) ?_
              refine g_sub [0, 1, 2, 3, 4, 5, 6, 7, 8, 9] rfl ?_
              exact hJ
          · rw [if_neg c20, if_neg c20, if_neg c20, if_neg c20] at hJ
            refine g_icmp_eq_f (off := 9) (tgt := 136) X (by decide +kernel) (by decide) c20 ?_
            refine g_iconst (n := 1) (x := (1 : Int32)) X (by decide +kernel) (by decide) ?_
            refine s_istore (i := 10) X (by decide +kernel) (by decide) rfl (ls_next (by decide) (Or.inr rfl) (ls_next (by decide) (Or.inr rfl) (ls_next (by decide) (Or.inr rfl) (ls_next (by decide) (Or.inr rfl) (ls_next (by decide) (Or.inr rfl) (ls_next (by decide) (Or.inr rfl) (ls_next (by decide) (Or.inr rfl) (ls_next (by decide) (Or.inr rfl) (ls_here (ls_next (by decide) (Or.inr rfl) (ls_next (by decide) (Or.inr rfl) ls_end))))))))))) ?_
            refine g_goto (off := 34) (tgt := 167) X (by decide +kernel) (by decide) ?_
            refine g_sub [0, 1, 2, 3, 4, 5, 6, 7, 8, 9] rfl ?_
            exact hJ
        · refine g_if_eq_f (off := 9) (tgt := 118) X (by decide +kernel) (by decide) c17 ?_
          refine g_iconst (n := 3) (x := (3 : Int32)) X (by decide +kernel) (by decide) ?_
          refine s_istore (i := 10) X (by decide +kernel) (by decide) rfl (ls_next (by decide) (Or.inr rfl) (ls_next (by decide) (Or.inr rfl) (ls_next (by decide) (Or.inr rfl) (ls_next (by decide) (Or.inr rfl) (ls_next (by decide) (Or.inr rfl) (ls_next (by decide) (Or.inr rfl) (ls_next (by decide) (Or.inr rfl) (ls_next (by decide) (Or.inr rfl) (ls_here (ls_next (by decide) (Or.inr rfl) (ls_next (by decide) (Or.inr rfl) ls_end))))))))))) ?_
          refine g_goto (off := 52) (tgt := 167) X (by decide +kernel) (by decide) ?_
          obtain ⟨x11_23, ex11_23, E⟩ := lt_E E
          refine s_iinc (i := 11) (n := 1) (y := x11_23) X (by decide +kernel) 9 rfl (by decide) ex11_23 (ls_next (by decide) (Or.inr rfl) (ls_next (by decide) (Or.inr rfl) (ls_next (by decide) (Or.inr rfl) (ls_next (by decide) (Or.inr rfl) (ls_next (by decide) (Or.inr rfl) (ls_next (by decide) (Or.inr rfl) (ls_next (by decide) (Or.inr rfl) (ls_next (by decide) (Or.inr rfl) (ls_next (by decide) (Or.inr rfl) (ls_here (ls_next (by decide) (Or.inr rfl) ls_end))))))))))) ?_
          refine g_goto (off := -112) (tgt := 58) X (by decide +kernel) (by decide) ?_
          refine g_sub [0, 1, 2, 3, 4, 5, 6, 7, 8, 9] rfl ?_
          exact ih x6 x7 x8 x9_14 (3 : Int32) x11_23 h13  E
      · refine g_if_ne_t (off := 103) (tgt := 173) X (by decide +kernel) (by decide) c11 ?_
        refine g_sub [0, 2, 7, 8] rfl ?_
        exact w0_trail_J173 X hK x0 x4 x9 x10 h px0 E
set_option maxHeartbeats 4000000 in
set_option maxRecDepth 20000 in
theorem c0_trail {sp : Sp} {K : Ly} {sz n : Nat} (hK : LyOk K) (o : Nat) (a1 : Int32) (a2 : Int32) (a3 : Int32) (a4 : Int32) (h : Hp) (ho : K o = some (.inl 0)) {v : Int32} {hf : Hp} (E : f0_trail K n o a1 a2 a3 a4 h = some (v, hf)) : Con sp y0_trail prog_1_method_16_code 13 (some (.int)) 3 0 0 [.ref o, .int a1, .int a2, .int a3, .int a4] sz K h (some (.int v)) sz K hf := by
  refine Con.of (by decide) (Nat.le_of_ble_eq_true rfl) (fun Γ X _ => ?_)
  show Go Γ (0, 0) 0 [(0, .ref o), (1, .int a1), (2, .int a2), (3, .int a3), (4, .int a4)] [] sz K h
  unfold f0_trail at E
  refine g_aload_n (n := 0) X (by decide +kernel) 0 rfl ?_
  refine g_iload_n (n := 1) X (by decide +kernel) 1 rfl ?_
  obtain ⟨y2, e1, E⟩ := bp_E E
  refine g_callV1 (st := []) X [.int a1] (by decide +kernel) ml0_79 ho rfl rfl (by decide) (Nat.le_of_ble_eq_true rfl) (c0_netAt hK o a1 h ho e1) ?_
  refine s_qstore (i := 5) X (by decide +kernel) (by decide) rfl (ls_next (by decide) (Or.inr rfl) (ls_next (by decide) (Or.inr rfl) (ls_next (by decide) (Or.inr rfl) (ls_next (by decide) (Or.inr rfl) (ls_next (by decide) (Or.inr rfl) (ls_ins ls_end)))))) ?_
  refine g_qload (n := 5) X (by decide +kernel) 5 rfl ?_
  rcases nl_E E with ⟨qo3, E⟩ | ⟨o3, qo3, E⟩
  · subst qo3
    refine g_ifnull_N (off := 19) (tgt := 28) X (by decide +kernel) (by decide) ?_
    refine g_iconst (n := -1) (x := (-1 : Int32)) X (by decide +kernel) (by decide) ?_
    obtain ⟨rfl, rfl⟩ := rt_E E
    exact g_ireturn X (by decide +kernel)
  · subst qo3
    obtain ⟨po3, E⟩ := gd_E E
    replace po3 := isO_of po3
    refine g_ifnull_R (off := 19) (tgt := 28) X (by decide +kernel) (by decide) ?_
    refine g_aload (n := 5) X (by decide +kernel) 5 rfl ?_
    refine g_iload_n (n := 2) X (by decide +kernel) 2 rfl ?_
    refine g_callV1 (st := []) X [.int a2] (by decide +kernel) ml0_138 po3 rfl rfl (by decide) (Nat.le_of_ble_eq_true rfl) (c2_hasNode hK o3 a2 h po3) ?_
    rcases it_E E with ⟨c4, E⟩ | ⟨c4, E⟩
    · refine g_if_eq_t (off := 10) (tgt := 28) X (by decide +kernel) (by decide) c4 ?_
      refine g_iconst (n := -1) (x := (-1 : Int32)) X (by decide +kernel) (by decide) ?_
      obtain ⟨rfl, rfl⟩ := rt_E E
      exact g_ireturn X (by decide +kernel)
    · refine g_if_eq_f (off := 10) (tgt := 28) X (by decide +kernel) (by decide) c4 ?_
      refine g_iload_n (n := 3) X (by decide +kernel) 3 rfl ?_
      obtain ⟨y6, e5, E⟩ := bp_E E
      refine g_callS1 (st := []) X [.int a3] (by decide +kernel) ml0_177 (by decide) (Nat.le_of_ble_eq_true rfl) (c0_isName hK a3 h  e5) ?_
      rcases it_E E with ⟨c7, E⟩ | ⟨c7, E⟩
      · refine g_if_ne_f (off := 5) (tgt := 30) X (by decide +kernel) (by decide) (fun z => z c7) ?_
        refine g_iconst (n := -1) (x := (-1 : Int32)) X (by decide +kernel) (by decide) ?_
        obtain ⟨rfl, rfl⟩ := rt_E E
        exact g_ireturn X (by decide +kernel)
      · refine g_if_ne_t (off := 5) (tgt := 30) X (by decide +kernel) (by decide) c7 ?_
        refine g_aload_n (n := 0) X (by decide +kernel) 0 rfl ?_
        refine g_getS X (by decide +kernel) fl0_34 ho ?_
        refine g_aload (n := 5) X (by decide +kernel) 5 rfl ?_
        refine g_iconst (n := -1) (x := (-1 : Int32)) X (by decide +kernel) (by decide) ?_
        obtain ⟨h9, e8, E⟩ := bp_E E
        refine g_callV0 (st := []) X [.ref o3, .int (-1 : Int32)] (by decide +kernel) ml0_203 (ly hK ho fl0_34 rfl) rfl rfl (by decide) (Nat.le_of_ble_eq_true rfl) (c10_begin hK (o + 210) o3 (-1 : Int32) h (ly hK ho fl0_34 rfl) po3 e8) ?_
        refine g_iconst (n := 0) (x := (0 : Int32)) X (by decide +kernel) (by decide) ?_
        refine s_istore (i := 6) X (by decide +kernel) (by decide) rfl (ls_next (by decide) (Or.inr rfl) (ls_next (by decide) (Or.inr rfl) (ls_next (by decide) (Or.inr rfl) (ls_next (by decide) (Or.inr rfl) (ls_next (by decide) (Or.inr rfl) (ls_next (by decide) (Or.inr rfl) (ls_ins ls_end))))))) ?_
        refine g_iconst (n := 0) (x := (0 : Int32)) X (by decide +kernel) (by decide) ?_
        refine s_istore (i := 7) X (by decide +kernel) (by decide) rfl (ls_next (by decide) (Or.inr rfl) (ls_next (by decide) (Or.inr rfl) (ls_next (by decide) (Or.inr rfl) (ls_next (by decide) (Or.inr rfl) (ls_next (by decide) (Or.inr rfl) (ls_next (by decide) (Or.inr rfl) (ls_next (by decide) (Or.inr rfl) (ls_ins ls_end)))))))) ?_
        refine g_iload_n (n := 2) X (by decide +kernel) 2 rfl ?_
        refine s_istore (i := 8) X (by decide +kernel) (by decide) rfl (ls_next (by decide) (Or.inr rfl) (ls_next (by decide) (Or.inr rfl) (ls_next (by decide) (Or.inr rfl) (ls_next (by decide) (Or.inr rfl) (ls_next (by decide) (Or.inr rfl) (ls_next (by decide) (Or.inr rfl) (ls_next (by decide) (Or.inr rfl) (ls_next (by decide) (Or.inr rfl) (ls_ins ls_end))))))))) ?_
        refine g_iconst (n := 0) (x := (0 : Int32)) X (by decide +kernel) (by decide) ?_
        refine s_istore (i := 9) X (by decide +kernel) (by decide) rfl (ls_next (by decide) (Or.inr rfl) (ls_next (by decide) (Or.inr rfl) (ls_next (by decide) (Or.inr rfl) (ls_next (by decide) (Or.inr rfl) (ls_next (by decide) (Or.inr rfl) (ls_next (by decide) (Or.inr rfl) (ls_next (by decide) (Or.inr rfl) (ls_next (by decide) (Or.inr rfl) (ls_next (by decide) (Or.inr rfl) (ls_ins ls_end)))))))))) ?_
        refine g_iconst (n := 0) (x := (0 : Int32)) X (by decide +kernel) (by decide) ?_
        refine s_istore (i := 10) X (by decide +kernel) (by decide) rfl (ls_next (by decide) (Or.inr rfl) (ls_next (by decide) (Or.inr rfl) (ls_next (by decide) (Or.inr rfl) (ls_next (by decide) (Or.inr rfl) (ls_next (by decide) (Or.inr rfl) (ls_next (by decide) (Or.inr rfl) (ls_next (by decide) (Or.inr rfl) (ls_next (by decide) (Or.inr rfl) (ls_next (by decide) (Or.inr rfl) (ls_next (by decide) (Or.inr rfl) (ls_ins ls_end))))))))))) ?_
        refine g_iconst (n := 0) (x := (0 : Int32)) X (by decide +kernel) (by decide) ?_
        refine s_istore (i := 11) X (by decide +kernel) (by decide) rfl (ls_next (by decide) (Or.inr rfl) (ls_next (by decide) (Or.inr rfl) (ls_next (by decide) (Or.inr rfl) (ls_next (by decide) (Or.inr rfl) (ls_next (by decide) (Or.inr rfl) (ls_next (by decide) (Or.inr rfl) (ls_next (by decide) (Or.inr rfl) (ls_next (by decide) (Or.inr rfl) (ls_next (by decide) (Or.inr rfl) (ls_next (by decide) (Or.inr rfl) (ls_next (by decide) (Or.inr rfl) (ls_ins ls_end)))))))))))) ?_
        refine g_sub [0, 3, 4, 5, 6, 7, 8, 9, 10, 11] rfl ?_
        exact w0_trail_L58 X hK o a3 a4 o3 ho po3 n (0 : Int32) (0 : Int32) a2 (0 : Int32) (0 : Int32) (0 : Int32) h9 E
-- AskedNames.shorten
def f0_shorten_J37 (K : Ly) (n : Nat)  (x0 : Nat) (x1 : Int32) (x2 : Int32) (x3 : Int32) (h : Hp) : Option Hp :=
    gd (inb x1 7) <|
    gd (inb x2 7) <|
    lt (sI h (x0 + 1037) x2.toNatClampNeg ((h.1 (x0 + 1037) x1.toNatClampNeg) + x3)) fun h10 =>
    some h10
def f0_shorten (K : Ly) (n : Nat) (o : Nat) (a1 : Int32) (a2 : Int32) (a3 : Int32) (h : Hp) : Option Hp :=
    gd (inb a1 7) <|
    if (h.1 (o + 1037) a1.toNatClampNeg) = (-1 : Int32) then (
    some h)
    else (
    gd (inb a2 7) <|
    if (h.1 (o + 1037) a2.toNatClampNeg) = (-1 : Int32) then (
    f0_shorten_J37 K n o a1 a2 a3 h)
    else (
    gd (inb a1 7) <|
    gd (inb a2 7) <|
    if (h.1 (o + 1037) a2.toNatClampNeg) ≤ ((h.1 (o + 1037) a1.toNatClampNeg) + a3) then (
    some h)
    else (
    f0_shorten_J37 K n o a1 a2 a3 h)))
set_option maxHeartbeats 4000000 in
set_option maxRecDepth 20000 in
theorem w0_shorten_J37 {Γ : CT} {sp : Sp} {K : Ly} {sz n : Nat} {hf : Hp}   (X : Ok Γ sp prog_1_method_29_code Rc0 4 none 1 none sz K hf) (hK : LyOk K) (x0 : Nat) (x1 : Int32) (x2 : Int32) (x3 : Int32) (h : Hp)  (px0 : K x0 = some (.inl 0)) (E : f0_shorten_J37 K n x0 x1 x2 x3 h = some hf) : Go Γ (0, 0) 37 [(0, .ref x0), (1, .int x1), (2, .int x2), (3, .int x3)] [] sz K h := by
  unfold f0_shorten_J37 at E
  refine g_aload_n (n := 0) X (by decide +kernel) 0 rfl ?_
  refine g_getS X (by decide +kernel) fl0_38 px0 ?_
  refine g_iload_n (n := 2) X (by decide +kernel) 2 rfl ?_
  refine g_aload_n (n := 0) X (by decide +kernel) 0 rfl ?_
  refine g_getS X (by decide +kernel) fl0_38 px0 ?_
  refine g_iload_n (n := 1) X (by decide +kernel) 1 rfl ?_
  obtain ⟨c8, E⟩ := gd_E E
  refine g_iald X (by decide +kernel) (ly hK px0 fl0_38 rfl) c8 ?_
  refine g_iload_n (n := 3) X (by decide +kernel) 3 rfl ?_
  refine g_iadd X (by decide +kernel) ?_
  obtain ⟨c9, E⟩ := gd_E E
  obtain ⟨h10, eh10, E⟩ := lt_E E
  refine g_iast X (by decide +kernel) (ly hK px0 fl0_38 rfl) c9 eh10 ?_
  obtain rfl := Option.some.inj E
  exact g_return X (by decide +kernel)
set_option maxHeartbeats 4000000 in
set_option maxRecDepth 20000 in
theorem c0_shorten {sp : Sp} {K : Ly} {sz n : Nat} (hK : LyOk K) (o : Nat) (a1 : Int32) (a2 : Int32) (a3 : Int32) (h : Hp) (ho : K o = some (.inl 0)) {hf : Hp} (E : f0_shorten K n o a1 a2 a3 h = some hf) : Con sp y0_shorten prog_1_method_29_code 4 none 1 0 0 [.ref o, .int a1, .int a2, .int a3] sz K h none sz K hf := by
  refine Con.of (by decide) (Nat.le_of_ble_eq_true rfl) (fun Γ X _ => ?_)
  show Go Γ (0, 0) 0 [(0, .ref o), (1, .int a1), (2, .int a2), (3, .int a3)] [] sz K h
  unfold f0_shorten at E
  refine g_aload_n (n := 0) X (by decide +kernel) 0 rfl ?_
  refine g_getS X (by decide +kernel) fl0_38 ho ?_
  refine g_iload_n (n := 1) X (by decide +kernel) 1 rfl ?_
  obtain ⟨c1, E⟩ := gd_E E
  refine g_iald X (by decide +kernel) (ly hK ho fl0_38 rfl) c1 ?_
  refine g_iconst (n := -1) (x := (-1 : Int32)) X (by decide +kernel) (by decide) ?_
  rcases it_E E with ⟨c2, E⟩ | ⟨c2, E⟩
  · refine g_icmp_eq_t (off := 44) (tgt := 51) X (by decide +kernel) (by decide) c2 ?_
    obtain rfl := Option.some.inj E
    exact g_return X (by decide +kernel)
  · refine g_icmp_eq_f (off := 44) (tgt := 51) X (by decide +kernel) (by decide) c2 ?_
    refine g_aload_n (n := 0) X (by decide +kernel) 0 rfl ?_
    refine g_getS X (by decide +kernel) fl0_38 ho ?_
    refine g_iload_n (n := 2) X (by decide +kernel) 2 rfl ?_
    obtain ⟨c3, E⟩ := gd_E E
    refine g_iald X (by decide +kernel) (ly hK ho fl0_38 rfl) c3 ?_
    refine g_iconst (n := -1) (x := (-1 : Int32)) X (by decide +kernel) (by decide) ?_
    rcases it_E E with ⟨c4, E⟩ | ⟨c4, E⟩
    · refine g_icmp_eq_t (off := 20) (tgt := 37) X (by decide +kernel) (by decide) c4 ?_
      exact w0_shorten_J37 X hK o a1 a2 a3 h ho E
    · refine g_icmp_eq_f (off := 20) (tgt := 37) X (by decide +kernel) (by decide) c4 ?_
      refine g_aload_n (n := 0) X (by decide +kernel) 0 rfl ?_
      refine g_getS X (by decide +kernel) fl0_38 ho ?_
      refine g_iload_n (n := 1) X (by decide +kernel) 1 rfl ?_
      obtain ⟨c5, E⟩ := gd_E E
      refine g_iald X (by decide +kernel) (ly hK ho fl0_38 rfl) c5 ?_
      refine g_iload_n (n := 3) X (by decide +kernel) 3 rfl ?_
      refine g_iadd X (by decide +kernel) ?_
      refine g_aload_n (n := 0) X (by decide +kernel) 0 rfl ?_
      refine g_getS X (by decide +kernel) fl0_38 ho ?_
      refine g_iload_n (n := 2) X (by decide +kernel) 2 rfl ?_
      obtain ⟨c6, E⟩ := gd_E E
      refine g_iald X (by decide +kernel) (ly hK ho fl0_38 rfl) c6 ?_
      rcases it_E E with ⟨c7, E⟩ | ⟨c7, E⟩
      · refine g_icmp_ge_t (off := 17) (tgt := 51) X (by decide +kernel) (by decide) c7 ?_
        obtain rfl := Option.some.inj E
        exact g_return X (by decide +kernel)
      · refine g_icmp_ge_f (off := 17) (tgt := 51) X (by decide +kernel) (by decide) c7 ?_
        exact w0_shorten_J37 X hK o a1 a2 a3 h ho E
-- AskedNames.far
def f0_far_L63 (K : Ly) (n : Nat) (x0 : Nat) (x3 : Int32) (x4 : Nat) (x5 : Int32)  (r50 : Int32 → Hp → Option (Int32 × Hp)) : Nat → Int32 → Hp → Option (Int32 × Hp)
  | 0, _, _ => none
  | k + 1, x6, h =>
    if (h.1 x4 2) ≤ x6 then (
    lt (x5 + (1 : Int32)) fun x5_13 =>
    r50 x5_13 h)
    else (
    gd (inb x6 15) <|
    gd (inb x6 15) <|
    gd (inb x6 15) <|
    bp (f0_shorten K n x0 (h.1 (x4 + 2) x6.toNatClampNeg) (h.1 (x4 + 3) x6.toNatClampNeg) (h.1 (x4 + 4) x6.toNatClampNeg) h) fun h18 =>
    gd (inb x6 15) <|
    gd (inb x6 15) <|
    gd (inb x6 15) <|
    bp (f0_shorten K n x0 (h18.1 (x4 + 3) x6.toNatClampNeg) (h18.1 (x4 + 2) x6.toNatClampNeg) (h18.1 (x4 + 4) x6.toNatClampNeg) h18) fun h23 =>
    lt (x6 + (1 : Int32)) fun x6_24 =>
    f0_far_L63 K n x0 x3 x4 x5 r50 k x6_24 h23)
def f0_far_L50 (K : Ly) (n : Nat) (x0 : Nat) (x3 : Int32) (x4 : Nat)   : Nat → Int32 → Hp → Option (Int32 × Hp)
  | 0, _, _ => none
  | k + 1, x5, h =>
    if (h.1 x4 0) ≤ x5 then (
    gd (inb x3 7) <|
    some ((h.1 (x0 + 1037) x3.toNatClampNeg), h))
    else (
    f0_far_L63 K n x0 x3 x4 x5 (f0_far_L50 K n x0 x3 x4  k) n (0 : Int32) h)
def f0_far (K : Ly) (n : Nat) (o : Nat) (a1 : Int32) (a2 : Int32) (a3 : Int32) (h : Hp) : Option (Int32 × Hp) :=
    bp (f0_netAt K n o a1 h) fun y2 =>
    nl y2 (
    some ((-1 : Int32), h)) fun o3 => gd (isO K o3 2) (
    if (f2_hasNode o3 a2 h) = 0 then (
    some ((-1 : Int32), h))
    else (
    if (f2_hasNode o3 a3 h) = 0 then (
    some ((-1 : Int32), h))
    else (
    bp (fJArrays_fill_IIV K n (o + 1037) 7 (-1 : Int32) h) fun h7 =>
    gd (inb a2 7) <|
    lt (sI h7 (o + 1037) a2.toNatClampNeg (0 : Int32)) fun h9 =>
    f0_far_L50 K n o a3 o3 n (1 : Int32) h9)))
set_option maxHeartbeats 4000000 in
set_option maxRecDepth 20000 in
theorem w0_far_L63 {Γ : CT} {sp : Sp} {K : Ly} {sz n : Nat} {v : Int32} {hf : Hp}  (X : Ok Γ sp prog_1_method_17_code Rc0 7 (some (.int)) 2 (some (.int v)) sz K hf) (hK : LyOk K) (x0 : Nat) (x3 : Int32) (x4 : Nat) (x5 : Int32)  {r50 : Int32 → Hp → Option (Int32 × Hp)} (px0 : K x0 = some (.inl 0)) (px4 : K x4 = some (.inl 2)) (hr50 : ∀ (x5 : Int32) (h : Hp), r50 x5 h = some (v, hf) → Go Γ (0, 0) 50 [(0, .ref x0), (3, .int x3), (4, .ref x4), (5, .int x5)] [] sz K h) : ∀ (k : Nat) (x6 : Int32) (h : Hp), f0_far_L63 K n x0 x3 x4 x5 r50 k x6 h = some (v, hf) → Go Γ (0, 0) 63 [(0, .ref x0), (3, .int x3), (4, .ref x4), (5, .int x5), (6, .int x6)] [] sz K h := by
  intro k
  induction k with
  | zero => intro x6 h E; cases E
  | succ k ih =>
    intro x6 h E
    unfold f0_far_L63 at E
    refine g_iload (n := 6) X (by decide +kernel) 4 rfl ?_
    refine g_aload (n := 4) X (by decide +kernel) 2 rfl ?_
    refine g_getI X (by decide +kernel) fl0_91 px4 ?_
    rcases it_E E with ⟨c12, E⟩ | ⟨c12, E⟩
    · refine g_icmp_ge_t (off := 65) (tgt := 135) X (by decide +kernel) (by decide) c12 ?_
      obtain ⟨x5_13, ex5_13, E⟩ := lt_E E
      refine s_iinc (i := 5) (n := 1) (y := x5_13) X (by decide +kernel) 3 rfl (by decide) ex5_13 (ls_next (by decide) (Or.inr rfl) (ls_next (by decide) (Or.inr rfl) (ls_next (by decide) (Or.inr rfl) (ls_here (ls_next (by decide) (Or.inr rfl) ls_end))))) ?_
      refine g_goto (off := -88) (tgt := 50) X (by decide +kernel) (by decide) ?_
      refine g_sub [0, 1, 2, 3] rfl ?_
      exact hr50 x5_13 h  E
    · refine g_icmp_ge_f (off := 65) (tgt := 135) X (by decide +kernel) (by decide) c12 ?_
      refine g_aload_n (n := 0) X (by decide +kernel) 0 rfl ?_
      refine g_aload (n := 4) X (by decide +kernel) 2 rfl ?_
      refine g_getS X (by decide +kernel) fl0_220 px4 ?_
      refine g_iload (n := 6) X (by decide +kernel) 4 rfl ?_
      obtain ⟨c14, E⟩ := gd_E E
      refine g_iald X (by decide +kernel) (ly hK px4 fl0_220 rfl) c14 ?_
      refine g_aload (n := 4) X (by decide +kernel) 2 rfl ?_
      refine g_getS X (by decide +kernel) fl0_223 px4 ?_
      refine g_iload (n := 6) X (by decide +kernel) 4 rfl ?_
      obtain ⟨c15, E⟩ := gd_E E
      refine g_iald X (by decide +kernel) (ly hK px4 fl0_223 rfl) c15 ?_
      refine g_aload (n := 4) X (by decide +kernel) 2 rfl ?_
      refine g_getS X (by decide +kernel) fl0_226 px4 ?_
      refine g_iload (n := 6) X (by decide +kernel) 4 rfl ?_
      obtain ⟨c16, E⟩ := gd_E E
      refine g_iald X (by decide +kernel) (ly hK px4 fl0_226 rfl) c16 ?_
      obtain ⟨h18, e17, E⟩ := bp_E E
      refine g_callV0 (st := []) X [.int (h.1 (x4 + 2) x6.toNatClampNeg), .int (h.1 (x4 + 3) x6.toNatClampNeg), .int (h.1 (x4 + 4) x6.toNatClampNeg)] (by decide +kernel) ml0_229 px0 rfl rfl (by decide) (Nat.le_of_ble_eq_true rfl) (c0_shorten hK x0 (h.1 (x4 + 2) x6.toNatClampNeg) (h.1 (x4 + 3) x6.toNatClampNeg) (h.1 (x4 + 4) x6.toNatClampNeg) h px0 e17) ?_
      refine g_aload_n (n := 0) X (by decide +kernel) 0 rfl ?_
      refine g_aload (n := 4) X (by decide +kernel) 2 rfl ?_
      refine g_getS X (by decide +kernel) fl0_223 px4 ?_
      refine g_iload (n := 6) X (by decide +kernel) 4 rfl ?_
      obtain ⟨c19, E⟩ := gd_E E
      refine g_iald X (by decide +kernel) (ly hK px4 fl0_223 rfl) c19 ?_
      refine g_aload (n := 4) X (by decide +kernel) 2 rfl ?_
      refine g_getS X (by decide +kernel) fl0_220 px4 ?_
      refine g_iload (n := 6) X (by decide +kernel) 4 rfl ?_
      obtain ⟨c20, E⟩ := gd_E E
      refine g_iald X (by decide +kernel) (ly hK px4 fl0_220 rfl) c20 ?_
      refine g_aload (n := 4) X (by decide +kernel) 2 rfl ?_
      refine g_getS X (by decide +kernel) fl0_226 px4 ?_
      refine g_iload (n := 6) X (by decide +kernel) 4 rfl ?_
      obtain ⟨c21, E⟩ := gd_E E
      refine g_iald X (by decide +kernel) (ly hK px4 fl0_226 rfl) c21 ?_
      obtain ⟨h23, e22, E⟩ := bp_E E
      refine g_callV0 (st := []) X [.int (h18.1 (x4 + 3) x6.toNatClampNeg), .int (h18.1 (x4 + 2) x6.toNatClampNeg), .int (h18.1 (x4 + 4) x6.toNatClampNeg)] (by decide +kernel) ml0_229 px0 rfl rfl (by decide) (Nat.le_of_ble_eq_true rfl) (c0_shorten hK x0 (h18.1 (x4 + 3) x6.toNatClampNeg) (h18.1 (x4 + 2) x6.toNatClampNeg) (h18.1 (x4 + 4) x6.toNatClampNeg) h18 px0 e22) ?_
      obtain ⟨x6_24, ex6_24, E⟩ := lt_E E
      refine s_iinc (i := 6) (n := 1) (y := x6_24) X (by decide +kernel) 4 rfl (by decide) ex6_24 (ls_next (by decide) (Or.inr rfl) (ls_next (by decide) (Or.inr rfl) (ls_next (by decide) (Or.inr rfl) (ls_next (by decide) (Or.inr rfl) (ls_here ls_end))))) ?_
      refine g_goto (off := -69) (tgt := 63) X (by decide +kernel) (by decide) ?_
      exact ih x6_24 h23  E
set_option maxHeartbeats 4000000 in
set_option maxRecDepth 20000 in
theorem w0_far_L50 {Γ : CT} {sp : Sp} {K : Ly} {sz n : Nat} {v : Int32} {hf : Hp}  (X : Ok Γ sp prog_1_method_17_code Rc0 7 (some (.int)) 2 (some (.int v)) sz K hf) (hK : LyOk K) (x0 : Nat) (x3 : Int32) (x4 : Nat)  (px0 : K x0 = some (.inl 0)) (px4 : K x4 = some (.inl 2))  : ∀ (k : Nat) (x5 : Int32) (h : Hp), f0_far_L50 K n x0 x3 x4  k x5 h = some (v, hf) → Go Γ (0, 0) 50 [(0, .ref x0), (3, .int x3), (4, .ref x4), (5, .int x5)] [] sz K h := by
  intro k
  induction k with
  | zero => intro x5 h E; cases E
  | succ k ih =>
    intro x5 h E
    unfold f0_far_L50 at E
    refine g_iload (n := 5) X (by decide +kernel) 3 rfl ?_
    refine g_aload (n := 4) X (by decide +kernel) 2 rfl ?_
    refine g_getI X (by decide +kernel) fl0_83 px4 ?_
    rcases it_E E with ⟨c10, E⟩ | ⟨c10, E⟩
    · refine g_icmp_ge_t (off := 84) (tgt := 141) X (by decide +kernel) (by decide) c10 ?_
      refine g_aload_n (n := 0) X (by decide +kernel) 0 rfl ?_
      refine g_getS X (by decide +kernel) fl0_38 px0 ?_
      refine g_iload_n (n := 3) X (by decide +kernel) 1 rfl ?_
      obtain ⟨c11, E⟩ := gd_E E
      refine g_iald X (by decide +kernel) (ly hK px0 fl0_38 rfl) c11 ?_
      obtain ⟨rfl, rfl⟩ := rt_E E
      exact g_ireturn X (by decide +kernel)
    · refine g_icmp_ge_f (off := 84) (tgt := 141) X (by decide +kernel) (by decide) c10 ?_
      refine g_iconst (n := 0) (x := (0 : Int32)) X (by decide +kernel) (by decide) ?_
      refine s_istore (i := 6) X (by decide +kernel) (by decide) rfl (ls_next (by decide) (Or.inr rfl) (ls_next (by decide) (Or.inr rfl) (ls_next (by decide) (Or.inr rfl) (ls_next (by decide) (Or.inr rfl) (ls_ins ls_end))))) ?_
      exact w0_far_L63 X hK x0 x3 x4 x5 px0 px4 ih n (0 : Int32) h E
set_option maxHeartbeats 4000000 in
set_option maxRecDepth 20000 in
theorem c0_far {sp : Sp} {K : Ly} {sz n : Nat} (hK : LyOk K) (o : Nat) (a1 : Int32) (a2 : Int32) (a3 : Int32) (h : Hp) (ho : K o = some (.inl 0)) {v : Int32} {hf : Hp} (E : f0_far K n o a1 a2 a3 h = some (v, hf)) : Con sp y0_far prog_1_method_17_code 7 (some (.int)) 2 0 0 [.ref o, .int a1, .int a2, .int a3] sz K h (some (.int v)) sz K hf := by
  refine Con.of (by decide) (Nat.le_of_ble_eq_true rfl) (fun Γ X _ => ?_)
  show Go Γ (0, 0) 0 [(0, .ref o), (1, .int a1), (2, .int a2), (3, .int a3)] [] sz K h
  unfold f0_far at E
  refine g_aload_n (n := 0) X (by decide +kernel) 0 rfl ?_
  refine g_iload_n (n := 1) X (by decide +kernel) 1 rfl ?_
  obtain ⟨y2, e1, E⟩ := bp_E E
  refine g_callV1 (st := []) X [.int a1] (by decide +kernel) ml0_79 ho rfl rfl (by decide) (Nat.le_of_ble_eq_true rfl) (c0_netAt hK o a1 h ho e1) ?_
  refine s_qstore (i := 4) X (by decide +kernel) (by decide) rfl (ls_next (by decide) (Or.inr rfl) (ls_next (by decide) (Or.inr rfl) (ls_next (by decide) (Or.inr rfl) (ls_next (by decide) (Or.inr rfl) (ls_ins ls_end))))) ?_
  refine g_qload (n := 4) X (by decide +kernel) 4 rfl ?_
  rcases nl_E E with ⟨qo3, E⟩ | ⟨o3, qo3, E⟩
  · subst qo3
    refine g_ifnull_N (off := 21) (tgt := 30) X (by decide +kernel) (by decide) ?_
    refine g_iconst (n := -1) (x := (-1 : Int32)) X (by decide +kernel) (by decide) ?_
    obtain ⟨rfl, rfl⟩ := rt_E E
    exact g_ireturn X (by decide +kernel)
  · subst qo3
    obtain ⟨po3, E⟩ := gd_E E
    replace po3 := isO_of po3
    refine g_ifnull_R (off := 21) (tgt := 30) X (by decide +kernel) (by decide) ?_
    refine g_aload (n := 4) X (by decide +kernel) 4 rfl ?_
    refine g_iload_n (n := 2) X (by decide +kernel) 2 rfl ?_
    refine g_callV1 (st := []) X [.int a2] (by decide +kernel) ml0_138 po3 rfl rfl (by decide) (Nat.le_of_ble_eq_true rfl) (c2_hasNode hK o3 a2 h po3) ?_
    rcases it_E E with ⟨c4, E⟩ | ⟨c4, E⟩
    · refine g_if_eq_t (off := 12) (tgt := 30) X (by decide +kernel) (by decide) c4 ?_
      refine g_iconst (n := -1) (x := (-1 : Int32)) X (by decide +kernel) (by decide) ?_
      obtain ⟨rfl, rfl⟩ := rt_E E
      exact g_ireturn X (by decide +kernel)
    · refine g_if_eq_f (off := 12) (tgt := 30) X (by decide +kernel) (by decide) c4 ?_
      refine g_aload (n := 4) X (by decide +kernel) 4 rfl ?_
      refine g_iload_n (n := 3) X (by decide +kernel) 3 rfl ?_
      refine g_callV1 (st := []) X [.int a3] (by decide +kernel) ml0_138 po3 rfl rfl (by decide) (Nat.le_of_ble_eq_true rfl) (c2_hasNode hK o3 a3 h po3) ?_
      rcases it_E E with ⟨c5, E⟩ | ⟨c5, E⟩
      · refine g_if_ne_f (off := 5) (tgt := 32) X (by decide +kernel) (by decide) (fun z => z c5) ?_
        refine g_iconst (n := -1) (x := (-1 : Int32)) X (by decide +kernel) (by decide) ?_
        obtain ⟨rfl, rfl⟩ := rt_E E
        exact g_ireturn X (by decide +kernel)
      · refine g_if_ne_t (off := 5) (tgt := 32) X (by decide +kernel) (by decide) c5 ?_
        refine g_aload_n (n := 0) X (by decide +kernel) 0 rfl ?_
        refine g_getS X (by decide +kernel) fl0_38 ho ?_
        refine g_iconst (n := -1) (x := (-1 : Int32)) X (by decide +kernel) (by decide) ?_
        obtain ⟨h7, e6, E⟩ := bp_E E
        refine g_callS0 (st := []) X [.ref (o + 1037), .int (-1 : Int32)] (by decide +kernel) ml0_214 (by decide) (Nat.le_of_ble_eq_true rfl) (cJArrays_fill_IIV hK (o + 1037) 7 (-1 : Int32) h (ly hK ho fl0_38 rfl) e6) ?_
        refine g_aload_n (n := 0) X (by decide +kernel) 0 rfl ?_
        refine g_getS X (by decide +kernel) fl0_38 ho ?_
        refine g_iload_n (n := 2) X (by decide +kernel) 2 rfl ?_
        refine g_iconst (n := 0) (x := (0 : Int32)) X (by decide +kernel) (by decide) ?_
        obtain ⟨c8, E⟩ := gd_E E
        obtain ⟨h9, eh9, E⟩ := lt_E E
        refine g_iast X (by decide +kernel) (ly hK ho fl0_38 rfl) c8 eh9 ?_
        refine g_iconst (n := 1) (x := (1 : Int32)) X (by decide +kernel) (by decide) ?_
        refine s_istore (i := 5) X (by decide +kernel) (by decide) rfl (ls_next (by decide) (Or.inr rfl) (ls_next (by decide) (Or.inr rfl) (ls_next (by decide) (Or.inr rfl) (ls_next (by decide) (Or.inr rfl) (ls_next (by decide) (Or.inr rfl) (ls_ins ls_end)))))) ?_
        refine g_sub [0, 3, 4, 5] rfl ?_
        exact w0_far_L50 X hK o a3 o3 ho po3 n (1 : Int32) h9 E
-- AskedNames.logAt
def f0_logAt_J17 (K : Ly) (n : Nat)   (h : Hp) : Option (Option Nat) :=
    some none
def f0_logAt (K : Ly) (n : Nat) (o : Nat) (a1 : Int32) (h : Hp) : Option (Option Nat) :=
    if a1 < 0 then (
    f0_logAt_J17 K n h)
    else (
    if a1 < (h.1 ((o + 1) + 2) (2 : Int32).toNatClampNeg) then (
    gd (inb a1 2) <|
    ob (h.2.2 ((o + 1) + 39) a1.toNatClampNeg) K 4 fun o4 =>
    some (some o4))
    else (
    f0_logAt_J17 K n h))
set_option maxHeartbeats 4000000 in
set_option maxRecDepth 20000 in
theorem w0_logAt_J17 {Γ : CT} {sp : Sp} {K : Ly} {sz n : Nat} {v : Option Nat} {h : Hp}   (X : Ok Γ sp prog_1_method_28_code Rc0 2 (some (.object "AskedNames$Log")) 1 (some (va_rf v)) sz K h) (hK : LyOk K)     (E : f0_logAt_J17 K n h = some v) : Go Γ (0, 0) 17 [] [] sz K h := by
  unfold f0_logAt_J17 at E
  refine g_null X (by decide +kernel) ?_
  refine g_goto (off := 12) (tgt := 30) X (by decide +kernel) (by decide) ?_
  obtain rfl := Option.some.inj E
  exact g_areturn (x := none) X (by decide +kernel) (Or.inl ⟨_, rfl⟩)
set_option maxHeartbeats 4000000 in
set_option maxRecDepth 20000 in
theorem c0_logAt {sp : Sp} {K : Ly} {sz n : Nat} (hK : LyOk K) (o : Nat) (a1 : Int32) (h : Hp) (ho : K o = some (.inl 0)) {v : Option Nat} (E : f0_logAt K n o a1 h = some v) : Con sp y0_logAt prog_1_method_28_code 2 (some (.object "AskedNames$Log")) 1 0 0 [.ref o, .int a1] sz K h (some (va_rf v)) sz K h := by
  refine Con.of (by decide) (Nat.le_of_ble_eq_true rfl) (fun Γ X _ => ?_)
  show Go Γ (0, 0) 0 [(0, .ref o), (1, .int a1)] [] sz K h
  unfold f0_logAt at E
  refine g_iload_n (n := 1) X (by decide +kernel) 1 rfl ?_
  rcases it_E E with ⟨c1, E⟩ | ⟨c1, E⟩
  · refine g_if_lt_t (off := 16) (tgt := 17) X (by decide +kernel) (by decide) c1 ?_
    refine g_sub [] rfl ?_
    exact w0_logAt_J17 X hK  E
  · refine g_if_lt_f (off := 16) (tgt := 17) X (by decide +kernel) (by decide) c1 ?_
    refine g_iload_n (n := 1) X (by decide +kernel) 1 rfl ?_
    refine g_aload_n (n := 0) X (by decide +kernel) 0 rfl ?_
    refine g_getS X (by decide +kernel) fl0_10 ho ?_
    refine g_getS X (by decide +kernel) fl0_62 (ly hK ho fl0_10 rfl) ?_
    refine g_iconst (n := 2) (x := (2 : Int32)) X (by decide +kernel) (by decide) ?_
    refine g_iald X (by decide +kernel) (ly hK (ly hK ho fl0_10 rfl) fl0_62 rfl) (by decide) ?_
    rcases it_E E with ⟨c2, E⟩ | ⟨c2, E⟩
    · refine g_icmp_lt_t (off := 7) (tgt := 21) X (by decide +kernel) (by decide) c2 ?_
      refine g_aload_n (n := 0) X (by decide +kernel) 0 rfl ?_
      refine g_getS X (by decide +kernel) fl0_10 ho ?_
      refine g_getS X (by decide +kernel) fl0_296 (ly hK ho fl0_10 rfl) ?_
      refine g_iload_n (n := 1) X (by decide +kernel) 1 rfl ?_
      obtain ⟨c3, E⟩ := gd_E E
      obtain ⟨o4, qo4, po4, E⟩ := ob_E E
      refine g_aald (C := "AskedNames$Log") X (by decide +kernel) (ly hK (ly hK ho fl0_10 rfl) fl0_296 rfl) rfl rfl c3 qo4 ?_
      obtain rfl := Option.some.inj E
      exact g_areturn (x := (some o4)) X (by decide +kernel) (Or.inl ⟨_, rfl⟩)
    · refine g_icmp_lt_f (off := 7) (tgt := 21) X (by decide +kernel) (by decide) c2 ?_
      refine g_sub [] rfl ?_
      exact w0_logAt_J17 X hK  E
-- AskedNames.fact
def f0_fact (K : Ly) (n : Nat) (o : Nat) (a1 : Int32) (a2 : Int32) (a3 : Int32) (h : Hp) : Option (Int32) :=
    bp (f0_logAt K n o a1 h) fun y2 =>
    nl y2 (
    some (-2 : Int32)) fun o3 => gd (isO K o3 4) (
    if a2 = (-1 : Int32) then (
    some (if a3 = 0 then (h.1 o3 0) else (-2 : Int32)))
    else (
    if a2 < 0 then (
    some (-2 : Int32))
    else (
    if a2 < (h.1 o3 0) then (
    if a3 = 0 then (
    gd (inb a2 8) <|
    some (h.1 (o3 + 1) a2.toNatClampNeg))
    else (
    if a3 = (1 : Int32) then (
    gd (inb a2 8) <|
    some (h.1 (o3 + 2) a2.toNatClampNeg))
    else (
    some (-2 : Int32))))
    else (
    some (-2 : Int32)))))
set_option maxHeartbeats 4000000 in
set_option maxRecDepth 20000 in
theorem c0_fact {sp : Sp} {K : Ly} {sz n : Nat} (hK : LyOk K) (o : Nat) (a1 : Int32) (a2 : Int32) (a3 : Int32) (h : Hp) (ho : K o = some (.inl 0)) {v : Int32} (E : f0_fact K n o a1 a2 a3 h = some v) : Con sp y0_fact prog_1_method_18_code 5 (some (.int)) 2 0 0 [.ref o, .int a1, .int a2, .int a3] sz K h (some (.int v)) sz K h := by
  refine Con.of (by decide) (Nat.le_of_ble_eq_true rfl) (fun Γ X _ => ?_)
  show Go Γ (0, 0) 0 [(0, .ref o), (1, .int a1), (2, .int a2), (3, .int a3)] [] sz K h
  unfold f0_fact at E
  refine g_aload_n (n := 0) X (by decide +kernel) 0 rfl ?_
  refine g_iload_n (n := 1) X (by decide +kernel) 1 rfl ?_
  obtain ⟨y2, e1, E⟩ := bp_E E
  refine g_callV1 (st := []) X [.int a1] (by decide +kernel) ml0_233 ho rfl rfl (by decide) (Nat.le_of_ble_eq_true rfl) (c0_logAt hK o a1 h ho e1) ?_
  refine s_qstore (i := 4) X (by decide +kernel) (by decide) rfl (ls_next (by decide) (Or.inr rfl) (ls_next (by decide) (Or.inr rfl) (ls_next (by decide) (Or.inr rfl) (ls_next (by decide) (Or.inr rfl) (ls_ins ls_end))))) ?_
  refine g_qload (n := 4) X (by decide +kernel) 4 rfl ?_
  rcases nl_E E with ⟨qo3, E⟩ | ⟨o3, qo3, E⟩
  · subst qo3
    refine g_ifnonnull_N (off := 6) (tgt := 15) X (by decide +kernel) (by decide) ?_
    refine g_bipush (n := -2) (x := (-2 : Int32)) X (by decide +kernel) (by decide) ?_
    obtain rfl := Option.some.inj E
    exact g_ireturn X (by decide +kernel)
  · subst qo3
    obtain ⟨po3, E⟩ := gd_E E
    replace po3 := isO_of po3
    refine g_ifnonnull_R (off := 6) (tgt := 15) X (by decide +kernel) (by decide) ?_
    refine g_iload_n (n := 2) X (by decide +kernel) 2 rfl ?_
    refine g_iconst (n := -1) (x := (-1 : Int32)) X (by decide +kernel) (by decide) ?_
    rcases it_E E with ⟨c4, E⟩ | ⟨c4, E⟩
    · refine g_icmp_ne_f (off := 18) (tgt := 35) X (by decide +kernel) (by decide) (fun z => z c4) ?_
      refine g_iload_n (n := 3) X (by decide +kernel) 3 rfl ?_
      have hJ : Go Γ (0, 0) 34 [] [.int (if a3 = 0 then (h.1 o3 0) else (-2 : Int32))] sz K h := by
        obtain rfl := Option.some.inj E
        exact g_ireturn X (by decide +kernel)
      clear E
      by_cases c5 : a3 = 0
      · rw [if_pos c5] at hJ
        refine g_if_ne_f (off := 11) (tgt := 32) X (by decide +kernel) (by decide) (fun z => z c5) ?_
        refine g_aload (n := 4) X (by decide +kernel) 4 rfl ?_
        refine g_getI X (by decide +kernel) fl0_237 po3 ?_
        refine g_goto (off := 5) (tgt := 34) X (by decide +kernel) (by decide) ?_
        refine g_sub [] rfl ?_
        exact hJ
      · rw [if_neg c5] at hJ
        refine g_if_ne_t (off := 11) (tgt := 32) X (by decide +kernel) (by decide) c5 ?_
        refine g_bipush (n := -2) (x := (-2 : Int32)) X (by decide +kernel) (by decide) ?_
        refine g_sub [] rfl ?_
        exact hJ
    · refine g_icmp_ne_t (off := 18) (tgt := 35) X (by decide +kernel) (by decide) c4 ?_
      refine g_iload_n (n := 2) X (by decide +kernel) 2 rfl ?_
      rcases it_E E with ⟨c6, E⟩ | ⟨c6, E⟩
      · refine g_if_lt_t (off := 12) (tgt := 48) X (by decide +kernel) (by decide) c6 ?_
        refine g_bipush (n := -2) (x := (-2 : Int32)) X (by decide +kernel) (by decide) ?_
        obtain rfl := Option.some.inj E
        exact g_ireturn X (by decide +kernel)
      · refine g_if_lt_f (off := 12) (tgt := 48) X (by decide +kernel) (by decide) c6 ?_
        refine g_iload_n (n := 2) X (by decide +kernel) 2 rfl ?_
        refine g_aload (n := 4) X (by decide +kernel) 4 rfl ?_
        refine g_getI X (by decide +kernel) fl0_237 po3 ?_
        rcases it_E E with ⟨c7, E⟩ | ⟨c7, E⟩
        · refine g_icmp_lt_t (off := 6) (tgt := 51) X (by decide +kernel) (by decide) c7 ?_
          refine g_iload_n (n := 3) X (by decide +kernel) 3 rfl ?_
          rcases it_E E with ⟨c8, E⟩ | ⟨c8, E⟩
          · refine g_if_ne_f (off := 11) (tgt := 63) X (by decide +kernel) (by decide) (fun z => z c8) ?_
            refine g_aload (n := 4) X (by decide +kernel) 4 rfl ?_
            refine g_getS X (by decide +kernel) fl0_242 po3 ?_
            refine g_iload_n (n := 2) X (by decide +kernel) 2 rfl ?_
            obtain ⟨c9, E⟩ := gd_E E
            refine g_iald X (by decide +kernel) (ly hK po3 fl0_242 rfl) c9 ?_
            obtain rfl := Option.some.inj E
            exact g_ireturn X (by decide +kernel)
          · refine g_if_ne_t (off := 11) (tgt := 63) X (by decide +kernel) (by decide) c8 ?_
            refine g_iload_n (n := 3) X (by decide +kernel) 3 rfl ?_
            refine g_iconst (n := 1) (x := (1 : Int32)) X (by decide +kernel) (by decide) ?_
            rcases it_E E with ⟨c10, E⟩ | ⟨c10, E⟩
            · refine g_icmp_ne_f (off := 13) (tgt := 78) X (by decide +kernel) (by decide) (fun z => z c10) ?_
              refine g_aload (n := 4) X (by decide +kernel) 4 rfl ?_
              refine g_getS X (by decide +kernel) fl0_245 po3 ?_
              refine g_iload_n (n := 2) X (by decide +kernel) 2 rfl ?_
              obtain ⟨c11, E⟩ := gd_E E
              refine g_iald X (by decide +kernel) (ly hK po3 fl0_245 rfl) c11 ?_
              refine g_goto (off := 5) (tgt := 80) X (by decide +kernel) (by decide) ?_
              obtain rfl := Option.some.inj E
              exact g_ireturn X (by decide +kernel)
            · refine g_icmp_ne_t (off := 13) (tgt := 78) X (by decide +kernel) (by decide) c10 ?_
              refine g_bipush (n := -2) (x := (-2 : Int32)) X (by decide +kernel) (by decide) ?_
              obtain rfl := Option.some.inj E
              exact g_ireturn X (by decide +kernel)
        · refine g_icmp_lt_f (off := 6) (tgt := 51) X (by decide +kernel) (by decide) c7 ?_
          refine g_bipush (n := -2) (x := (-2 : Int32)) X (by decide +kernel) (by decide) ?_
          obtain rfl := Option.some.inj E
          exact g_ireturn X (by decide +kernel)
-- AskedNames.got
def f0_got (K : Ly) (n : Nat) (o : Nat) (a1 : Nat) (a2 : Int32) (a3 : Int32) (h : Hp) : Option (Int32) :=
    if a3 ≤ a2 then (
    some (0 : Int32))
    else (
    bp (f3_asks K n a1 a2 h) fun y3 =>
    if y3 = 0 then (
    some (0 : Int32))
    else (
    gd (inb a2 60) <|
    ob (h.2.2 ((o + 210) + 21) a2.toNatClampNeg) K 9 fun o6 =>
    some (if (h.1 o6 0) = (1 : Int32) then (1 : Int32) else (0 : Int32))))
set_option maxHeartbeats 4000000 in
set_option maxRecDepth 20000 in
theorem c0_got {sp : Sp} {K : Ly} {sz n : Nat} (hK : LyOk K) (o : Nat) (a1 : Nat) (a2 : Int32) (a3 : Int32) (h : Hp) (ho : K o = some (.inl 0)) (ha1 : K a1 = some (.inl 3)) {v : Int32} (E : f0_got K n o a1 a2 a3 h = some v) : Con sp y0_got prog_1_method_30_code 4 (some (.boolean)) 2 0 0 [.ref o, .ref a1, .int a2, .int a3] sz K h (some (.int v)) sz K h := by
  refine Con.of (by decide) (Nat.le_of_ble_eq_true rfl) (fun Γ X _ => ?_)
  show Go Γ (0, 0) 0 [(0, .ref o), (1, .ref a1), (2, .int a2), (3, .int a3)] [] sz K h
  unfold f0_got at E
  refine g_iload_n (n := 2) X (by decide +kernel) 2 rfl ?_
  refine g_iload_n (n := 3) X (by decide +kernel) 3 rfl ?_
  rcases it_E E with ⟨c1, E⟩ | ⟨c1, E⟩
  · refine g_icmp_ge_t (off := 31) (tgt := 33) X (by decide +kernel) (by decide) c1 ?_
    refine g_iconst (n := 0) (x := (0 : Int32)) X (by decide +kernel) (by decide) ?_
    obtain rfl := Option.some.inj E
    exact g_zreturn X (by decide +kernel) rfl
  · refine g_icmp_ge_f (off := 31) (tgt := 33) X (by decide +kernel) (by decide) c1 ?_
    refine g_aload_n (n := 1) X (by decide +kernel) 1 rfl ?_
    refine g_iload_n (n := 2) X (by decide +kernel) 2 rfl ?_
    obtain ⟨y3, e2, E⟩ := bp_E E
    refine g_callV1 (st := []) X [.int a2] (by decide +kernel) ml0_167 ha1 rfl rfl (by decide) (Nat.le_of_ble_eq_true rfl) (c3_asks hK a1 a2 h ha1 e2) ?_
    rcases it_E E with ⟨c4, E⟩ | ⟨c4, E⟩
    · refine g_if_eq_t (off := 23) (tgt := 33) X (by decide +kernel) (by decide) c4 ?_
      refine g_iconst (n := 0) (x := (0 : Int32)) X (by decide +kernel) (by decide) ?_
      obtain rfl := Option.some.inj E
      exact g_zreturn X (by decide +kernel) rfl
    · refine g_if_eq_f (off := 23) (tgt := 33) X (by decide +kernel) (by decide) c4 ?_
      refine g_aload_n (n := 0) X (by decide +kernel) 0 rfl ?_
      refine g_getS X (by decide +kernel) fl0_34 ho ?_
      refine g_getS X (by decide +kernel) fl0_170 (ly hK ho fl0_34 rfl) ?_
      refine g_iload_n (n := 2) X (by decide +kernel) 2 rfl ?_
      obtain ⟨c5, E⟩ := gd_E E
      obtain ⟨o6, qo6, po6, E⟩ := ob_E E
      refine g_aald (C := "AskedNames$Fate") X (by decide +kernel) (ly hK (ly hK ho fl0_34 rfl) fl0_170 rfl) rfl rfl c5 qo6 ?_
      refine g_getI X (by decide +kernel) fl0_300 po6 ?_
      refine g_iconst (n := 1) (x := (1 : Int32)) X (by decide +kernel) (by decide) ?_
      have hJ : Go Γ (0, 0) 34 [] [.int (if (h.1 o6 0) = (1 : Int32) then (1 : Int32) else (0 : Int32))] sz K h := by
        obtain rfl := Option.some.inj E
        exact g_zreturn X (by decide +kernel) (by (repeat' split) <;> rfl)
      clear E
      by_cases c7 : (h.1 o6 0) = (1 : Int32)
      · rw [if_pos c7] at hJ
        refine g_icmp_ne_f (off := 7) (tgt := 33) X (by decide +kernel) (by decide) (fun z => z c7) ?_
        refine g_iconst (n := 1) (x := (1 : Int32)) X (by decide +kernel) (by decide) ?_
        refine g_goto (off := 4) (tgt := 34) X (by decide +kernel) (by decide) ?_
        refine g_sub [] rfl ?_
        exact hJ
      · rw [if_neg c7] at hJ
        refine g_icmp_ne_t (off := 7) (tgt := 33) X (by decide +kernel) (by decide) c7 ?_
        refine g_iconst (n := 0) (x := (0 : Int32)) X (by decide +kernel) (by decide) ?_
        refine g_sub [] rfl ?_
        exact hJ
-- AskedNames.agrees
def f0_agrees_J88 (K : Ly) (n : Nat) (r3 : Int32 → Option (Int32)) (x0 : Nat) (x1 : Nat) (x2 : Nat) (x3 : Int32) (x4 : Int32) (s0 : Int32) (h : Hp) : Option (Int32) :=
    if s0 = 0 then (
    some (0 : Int32))
    else (
    lt (x4 + (1 : Int32)) fun x4_15 =>
    r3 x4_15)
def f0_agrees_J87 (K : Ly) (n : Nat) (r3 : Int32 → Option (Int32)) (x0 : Nat) (x1 : Nat) (x2 : Nat) (x3 : Int32) (x4 : Int32) (h : Hp) : Option (Int32) :=
    f0_agrees_J88 K n (r3) x0 x1 x2 x3 x4 (0 : Int32) h
def f0_agrees_L3 (K : Ly) (n : Nat) (x0 : Nat) (x1 : Nat) (x2 : Nat) (x3 : Int32) (h : Hp)  : Nat → Int32 → Option (Int32)
  | 0, _ => none
  | k + 1, x4 =>
    if (h.1 x2 0) ≤ x4 then (
    some (1 : Int32))
    else (
    gd (inb x4 8) <|
    lt (h.1 (x2 + 1) x4.toNatClampNeg) fun x5_3 =>
    bp (f0_got K n x0 x1 x5_3 x3 h) fun y5 =>
    gd (inb x4 8) <|
    if (h.1 (x2 + 2) x4.toNatClampNeg) = (-1 : Int32) then (
    f0_agrees_J88 K n (f0_agrees_L3 K n x0 x1 x2 x3 h  k) x0 x1 x2 x3 x4 (if y5 = 0 then (1 : Int32) else (0 : Int32)) h)
    else (
    if y5 = 0 then (
    f0_agrees_J87 K n (f0_agrees_L3 K n x0 x1 x2 x3 h  k) x0 x1 x2 x3 x4 h)
    else (
    gd (inb x5_3 60) <|
    ob (h.2.2 ((x0 + 210) + 21) x5_3.toNatClampNeg) K 9 fun o11 =>
    gd (inb x4 8) <|
    f0_agrees_J88 K n (f0_agrees_L3 K n x0 x1 x2 x3 h  k) x0 x1 x2 x3 x4 (if (h.1 o11 2) = (h.1 (x2 + 2) x4.toNatClampNeg) then (1 : Int32) else (0 : Int32)) h)))
def f0_agrees (K : Ly) (n : Nat) (o : Nat) (a1 : Nat) (a2 : Nat) (a3 : Int32) (h : Hp) : Option (Int32) :=
    f0_agrees_L3 K n o a1 a2 a3 h n (0 : Int32)
set_option maxHeartbeats 4000000 in
set_option maxRecDepth 20000 in
theorem w0_agrees_J88 {Γ : CT} {sp : Sp} {K : Ly} {sz n : Nat} {v : Int32} {h : Hp}  {r3 : Int32 → Option (Int32)}  (X : Ok Γ sp prog_1_method_31_code Rc0 8 (some (.boolean)) 3 (some (.int v)) sz K h) (hK : LyOk K) (x0 : Nat) (x1 : Nat) (x2 : Nat) (x3 : Int32) (x4 : Int32) (s0 : Int32)  (hr3 : ∀ (x4 : Int32), r3 x4 = some v → Go Γ (0, 0) 3 [(0, .ref x0), (1, .ref x1), (2, .ref x2), (3, .int x3), (4, .int x4)] [] sz K h) (px0 : K x0 = some (.inl 0)) (px1 : K x1 = some (.inl 3)) (px2 : K x2 = some (.inl 4)) (E : f0_agrees_J88 K n r3 x0 x1 x2 x3 x4 s0 h = some v) : Go Γ (0, 0) 88 [(0, .ref x0), (1, .ref x1), (2, .ref x2), (3, .int x3), (4, .int x4)] [.int s0] sz K h := by
  unfold f0_agrees_J88 at E
  refine s_istore (i := 7) X (by decide +kernel) (by decide) rfl (ls_next (by decide) (Or.inr rfl) (ls_next (by decide) (Or.inr rfl) (ls_next (by decide) (Or.inr rfl) (ls_next (by decide) (Or.inr rfl) (ls_next (by decide) (Or.inr rfl) (ls_ins ls_end)))))) ?_
  refine g_iload (n := 7) X (by decide +kernel) 5 rfl ?_
  rcases it_E E with ⟨c14, E⟩ | ⟨c14, E⟩
  · refine g_if_ne_f (off := 5) (tgt := 97) X (by decide +kernel) (by decide) (fun z => z c14) ?_
    refine g_iconst (n := 0) (x := (0 : Int32)) X (by decide +kernel) (by decide) ?_
    obtain rfl := Option.some.inj E
    exact g_zreturn X (by decide +kernel) rfl
  · refine g_if_ne_t (off := 5) (tgt := 97) X (by decide +kernel) (by decide) c14 ?_
    obtain ⟨x4_15, ex4_15, E⟩ := lt_E E
    refine s_iinc (i := 4) (n := 1) (y := x4_15) X (by decide +kernel) 4 rfl (by decide) ex4_15 (ls_next (by decide) (Or.inr rfl) (ls_next (by decide) (Or.inr rfl) (ls_next (by decide) (Or.inr rfl) (ls_next (by decide) (Or.inr rfl) (ls_here (ls_next (by decide) (Or.inr rfl) ls_end)))))) ?_
    refine g_goto (off := -97) (tgt := 3) X (by decide +kernel) (by decide) ?_
    refine g_sub [0, 1, 2, 3, 4] rfl ?_
    exact hr3 x4_15  E
set_option maxHeartbeats 4000000 in
set_option maxRecDepth 20000 in
theorem w0_agrees_J87 {Γ : CT} {sp : Sp} {K : Ly} {sz n : Nat} {v : Int32} {h : Hp}  {r3 : Int32 → Option (Int32)}  (X : Ok Γ sp prog_1_method_31_code Rc0 8 (some (.boolean)) 3 (some (.int v)) sz K h) (hK : LyOk K) (x0 : Nat) (x1 : Nat) (x2 : Nat) (x3 : Int32) (x4 : Int32)  (hr3 : ∀ (x4 : Int32), r3 x4 = some v → Go Γ (0, 0) 3 [(0, .ref x0), (1, .ref x1), (2, .ref x2), (3, .int x3), (4, .int x4)] [] sz K h) (px0 : K x0 = some (.inl 0)) (px1 : K x1 = some (.inl 3)) (px2 : K x2 = some (.inl 4)) (E : f0_agrees_J87 K n r3 x0 x1 x2 x3 x4 h = some v) : Go Γ (0, 0) 87 [(0, .ref x0), (1, .ref x1), (2, .ref x2), (3, .int x3), (4, .int x4)] [] sz K h := by
  unfold f0_agrees_J87 at E
  refine g_iconst (n := 0) (x := (0 : Int32)) X (by decide +kernel) (by decide) ?_
  exact w0_agrees_J88 X hK x0 x1 x2 x3 x4 (0 : Int32) hr3 px0 px1 px2 E
set_option maxHeartbeats 4000000 in
set_option maxRecDepth 20000 in
theorem w0_agrees_L3 {Γ : CT} {sp : Sp} {K : Ly} {sz n : Nat} {v : Int32} {h : Hp}  (X : Ok Γ sp prog_1_method_31_code Rc0 8 (some (.boolean)) 3 (some (.int v)) sz K h) (hK : LyOk K) (x0 : Nat) (x1 : Nat) (x2 : Nat) (x3 : Int32)  (px0 : K x0 = some (.inl 0)) (px1 : K x1 = some (.inl 3)) (px2 : K x2 = some (.inl 4))  : ∀ (k : Nat) (x4 : Int32), f0_agrees_L3 K n x0 x1 x2 x3 h  k x4 = some v → Go Γ (0, 0) 3 [(0, .ref x0), (1, .ref x1), (2, .ref x2), (3, .int x3), (4, .int x4)] [] sz K h := by
  intro k
  induction k with
  | zero => intro x4 E; cases E
  | succ k ih =>
    intro x4 E
    unfold f0_agrees_L3 at E
    refine g_iload (n := 4) X (by decide +kernel) 4 rfl ?_
    refine g_aload_n (n := 2) X (by decide +kernel) 2 rfl ?_
    refine g_getI X (by decide +kernel) fl0_237 px2 ?_
    rcases it_E E with ⟨c1, E⟩ | ⟨c1, E⟩
    · refine g_icmp_ge_t (off := 94) (tgt := 103) X (by decide +kernel) (by decide) c1 ?_
      refine g_iconst (n := 1) (x := (1 : Int32)) X (by decide +kernel) (by decide) ?_
      obtain rfl := Option.some.inj E
      exact g_zreturn X (by decide +kernel) rfl
    · refine g_icmp_ge_f (off := 94) (tgt := 103) X (by decide +kernel) (by decide) c1 ?_
      refine g_aload_n (n := 2) X (by decide +kernel) 2 rfl ?_
      refine g_getS X (by decide +kernel) fl0_242 px2 ?_
      refine g_iload (n := 4) X (by decide +kernel) 4 rfl ?_
      obtain ⟨c2, E⟩ := gd_E E
      refine g_iald X (by decide +kernel) (ly hK px2 fl0_242 rfl) c2 ?_
      obtain ⟨x5_3, ex5_3, E⟩ := lt_E E
      refine s_istore (i := 5) X (by decide +kernel) (by decide) ex5_3 (ls_next (by decide) (Or.inr rfl) (ls_next (by decide) (Or.inr rfl) (ls_next (by decide) (Or.inr rfl) (ls_next (by decide) (Or.inr rfl) (ls_next (by decide) (Or.inr rfl) (ls_ins ls_end)))))) ?_
      refine g_aload_n (n := 0) X (by decide +kernel) 0 rfl ?_
      refine g_aload_n (n := 1) X (by decide +kernel) 1 rfl ?_
      refine g_iload (n := 5) X (by decide +kernel) 5 rfl ?_
      refine g_iload_n (n := 3) X (by decide +kernel) 3 rfl ?_
      obtain ⟨y5, e4, E⟩ := bp_E E
      refine g_callV1 (st := []) X [.ref x1, .int x5_3, .int x3] (by decide +kernel) ml0_303 px0 rfl rfl (by decide) (Nat.le_of_ble_eq_true rfl) (c0_got hK x0 x1 x5_3 x3 h px0 px1 e4) ?_
      refine s_istore (i := 6) X (by decide +kernel) (by decide) rfl (ls_next (by decide) (Or.inr rfl) (ls_next (by decide) (Or.inr rfl) (ls_next (by decide) (Or.inr rfl) (ls_next (by decide) (Or.inr rfl) (ls_next (by decide) (Or.inr rfl) (ls_next (by decide) (Or.inr rfl) (ls_ins ls_end))))))) ?_
      refine g_aload_n (n := 2) X (by decide +kernel) 2 rfl ?_
      refine g_getS X (by decide +kernel) fl0_245 px2 ?_
      refine g_iload (n := 4) X (by decide +kernel) 4 rfl ?_
      obtain ⟨c6, E⟩ := gd_E E
      refine g_iald X (by decide +kernel) (ly hK px2 fl0_245 rfl) c6 ?_
      refine g_iconst (n := -1) (x := (-1 : Int32)) X (by decide +kernel) (by decide) ?_
      rcases it_E E with ⟨c7, E⟩ | ⟨c7, E⟩
      · refine g_icmp_ne_f (off := 16) (tgt := 55) X (by decide +kernel) (by decide) (fun z => z c7) ?_
        refine g_iload (n := 6) X (by decide +kernel) 6 rfl ?_
        have hJ : Go Γ (0, 0) 88 [(0, .ref x0), (1, .ref x1), (2, .ref x2), (3, .int x3), (4, .int x4)] [.int (if y5 = 0 then (1 : Int32) else (0 : Int32))] sz K h := by
          exact w0_agrees_J88 X hK x0 x1 x2 x3 x4 (if y5 = 0 then (1 : Int32) else (0 : Int32)) ih px0 px1 px2 E
        clear E
        by_cases c8 : y5 = 0
        · rw [if_pos c8] at hJ
          refine g_if_ne_f (off := 7) (tgt := 51) X (by decide +kernel) (by decide) (fun z => z c8) ?_
          refine g_iconst (n := 1) (x := (1 : Int32)) X (by decide +kernel) (by decide) ?_
          refine g_goto (off := 40) (tgt := 88) X (by decide +kernel) (by decide) ?_
          refine g_sub [0, 1, 2, 3, 4] rfl ?_
          exact hJ
        · rw [if_neg c8] at hJ
          refine g_if_ne_t (off := 7) (tgt := 51) X (by decide +kernel) (by decide) c8 ?_
          refine g_iconst (n := 0) (x := (0 : Int32)) X (by decide +kernel) (by decide) ?_
          refine g_goto (off := 36) (tgt := 88) X (by decide +kernel) (by decide) ?_
          refine g_sub [0, 1, 2, 3, 4] rfl ?_
          exact hJ
      · refine g_icmp_ne_t (off := 16) (tgt := 55) X (by decide +kernel) (by decide) c7 ?_
        refine g_iload (n := 6) X (by decide +kernel) 6 rfl ?_
        rcases it_E E with ⟨c9, E⟩ | ⟨c9, E⟩
        · refine g_if_eq_t (off := 30) (tgt := 87) X (by decide +kernel) (by decide) c9 ?_
          refine g_sub [0, 1, 2, 3, 4] rfl ?_
          exact w0_agrees_J87 X hK x0 x1 x2 x3 x4 ih px0 px1 px2 E
        · refine g_if_eq_f (off := 30) (tgt := 87) X (by decide +kernel) (by decide) c9 ?_
          refine g_aload_n (n := 0) X (by decide +kernel) 0 rfl ?_
          refine g_getS X (by decide +kernel) fl0_34 px0 ?_
          refine g_getS X (by decide +kernel) fl0_170 (ly hK px0 fl0_34 rfl) ?_
          refine g_iload (n := 5) X (by decide +kernel) 5 rfl ?_
          obtain ⟨c10, E⟩ := gd_E E
          obtain ⟨o11, qo11, po11, E⟩ := ob_E E
          refine g_aald (C := "AskedNames$Fate") X (by decide +kernel) (ly hK (ly hK px0 fl0_34 rfl) fl0_170 rfl) rfl rfl c10 qo11 ?_
          refine g_getI X (by decide +kernel) fl0_307 po11 ?_
          refine g_aload_n (n := 2) X (by decide +kernel) 2 rfl ?_
          refine g_getS X (by decide +kernel) fl0_245 px2 ?_
          refine g_iload (n := 4) X (by decide +kernel) 4 rfl ?_
          obtain ⟨c12, E⟩ := gd_E E
          refine g_iald X (by decide +kernel) (ly hK px2 fl0_245 rfl) c12 ?_
          have hJ : Go Γ (0, 0) 88 [(0, .ref x0), (1, .ref x1), (2, .ref x2), (3, .int x3), (4, .int x4)] [.int (if (h.1 o11 2) = (h.1 (x2 + 2) x4.toNatClampNeg) then (1 : Int32) else (0 : Int32))] sz K h := by
            exact w0_agrees_J88 X hK x0 x1 x2 x3 x4 (if (h.1 o11 2) = (h.1 (x2 + 2) x4.toNatClampNeg) then (1 : Int32) else (0 : Int32)) ih px0 px1 px2 E
          clear E
          by_cases c13 : (h.1 o11 2) = (h.1 (x2 + 2) x4.toNatClampNeg)
          · rw [if_pos c13] at hJ
            refine g_icmp_ne_f (off := 7) (tgt := 87) X (by decide +kernel) (by decide) (fun z => z c13) ?_
            refine g_iconst (n := 1) (x := (1 : Int32)) X (by decide +kernel) (by decide) ?_
            refine g_goto (off := 4) (tgt := 88) X (by decide +kernel) (by decide) ?_
            refine g_sub [0, 1, 2, 3, 4] rfl ?_
            exact hJ
          · rw [if_neg c13] at hJ
            refine g_icmp_ne_t (off := 7) (tgt := 87) X (by decide +kernel) (by decide) c13 ?_
            refine g_iconst (n := 0) (x := (0 : Int32)) X (by decide +kernel) (by decide) ?_
            refine g_sub [0, 1, 2, 3, 4] rfl ?_
            exact hJ
set_option maxHeartbeats 4000000 in
set_option maxRecDepth 20000 in
theorem c0_agrees {sp : Sp} {K : Ly} {sz n : Nat} (hK : LyOk K) (o : Nat) (a1 : Nat) (a2 : Nat) (a3 : Int32) (h : Hp) (ho : K o = some (.inl 0)) (ha1 : K a1 = some (.inl 3)) (ha2 : K a2 = some (.inl 4)) {v : Int32} (E : f0_agrees K n o a1 a2 a3 h = some v) : Con sp y0_agrees prog_1_method_31_code 8 (some (.boolean)) 3 0 0 [.ref o, .ref a1, .ref a2, .int a3] sz K h (some (.int v)) sz K h := by
  refine Con.of (by decide) (Nat.le_of_ble_eq_true rfl) (fun Γ X _ => ?_)
  show Go Γ (0, 0) 0 [(0, .ref o), (1, .ref a1), (2, .ref a2), (3, .int a3)] [] sz K h
  unfold f0_agrees at E
  refine g_iconst (n := 0) (x := (0 : Int32)) X (by decide +kernel) (by decide) ?_
  refine s_istore (i := 4) X (by decide +kernel) (by decide) rfl (ls_next (by decide) (Or.inr rfl) (ls_next (by decide) (Or.inr rfl) (ls_next (by decide) (Or.inr rfl) (ls_next (by decide) (Or.inr rfl) (ls_ins ls_end))))) ?_
  exact w0_agrees_L3 X hK o a1 a2 a3 ho ha1 ha2 n (0 : Int32) E
-- AskedNames.noteGot
def f0_noteGot_L2 (K : Ly) (n : Nat) (x0 : Nat) (x1 : Nat) (x2 : Int32)   : Nat → Int32 → Hp → Option Hp
  | 0, _, _ => none
  | k + 1, x3, h =>
    if x2 ≤ x3 then (
    some h)
    else (
    bp (f0_got K n x0 x1 x3 x2 h) fun y3 =>
    if y3 = 0 then (
    lt (x3 + (1 : Int32)) fun x3_5 =>
    f0_noteGot_L2 K n x0 x1 x2  k x3_5 h)
    else (
    gd (inb x3 40) <|
    gd (inb x3 40) <|
    lt (sI h (x0 + 1039) x3.toNatClampNeg ((h.1 (x0 + 1039) x3.toNatClampNeg) + (1 : Int32))) fun h8 =>
    lt (x3 + (1 : Int32)) fun x3_9 =>
    f0_noteGot_L2 K n x0 x1 x2  k x3_9 h8))
def f0_noteGot (K : Ly) (n : Nat) (o : Nat) (a1 : Nat) (a2 : Int32) (h : Hp) : Option Hp :=
    f0_noteGot_L2 K n o a1 a2 n (0 : Int32) h
set_option maxHeartbeats 4000000 in
set_option maxRecDepth 20000 in
theorem w0_noteGot_L2 {Γ : CT} {sp : Sp} {K : Ly} {sz n : Nat} {hf : Hp}  (X : Ok Γ sp prog_1_method_32_code Rc0 4 none 3 none sz K hf) (hK : LyOk K) (x0 : Nat) (x1 : Nat) (x2 : Int32)  (px0 : K x0 = some (.inl 0)) (px1 : K x1 = some (.inl 3))  : ∀ (k : Nat) (x3 : Int32) (h : Hp), f0_noteGot_L2 K n x0 x1 x2  k x3 h = some hf → Go Γ (0, 0) 2 [(0, .ref x0), (1, .ref x1), (2, .int x2), (3, .int x3)] [] sz K h := by
  intro k
  induction k with
  | zero => intro x3 h E; cases E
  | succ k ih =>
    intro x3 h E
    unfold f0_noteGot_L2 at E
    refine g_iload_n (n := 3) X (by decide +kernel) 3 rfl ?_
    refine g_iload_n (n := 2) X (by decide +kernel) 2 rfl ?_
    rcases it_E E with ⟨c1, E⟩ | ⟨c1, E⟩
    · refine g_icmp_ge_t (off := 29) (tgt := 33) X (by decide +kernel) (by decide) c1 ?_
      obtain rfl := Option.some.inj E
      exact g_return X (by decide +kernel)
    · refine g_icmp_ge_f (off := 29) (tgt := 33) X (by decide +kernel) (by decide) c1 ?_
      refine g_aload_n (n := 0) X (by decide +kernel) 0 rfl ?_
      refine g_aload_n (n := 1) X (by decide +kernel) 1 rfl ?_
      refine g_iload_n (n := 3) X (by decide +kernel) 3 rfl ?_
      refine g_iload_n (n := 2) X (by decide +kernel) 2 rfl ?_
      obtain ⟨y3, e2, E⟩ := bp_E E
      refine g_callV1 (st := []) X [.ref x1, .int x3, .int x2] (by decide +kernel) ml0_303 px0 rfl rfl (by decide) (Nat.le_of_ble_eq_true rfl) (c0_got hK x0 x1 x3 x2 h px0 px1 e2) ?_
      rcases it_E E with ⟨c4, E⟩ | ⟨c4, E⟩
      · refine g_if_eq_t (off := 13) (tgt := 27) X (by decide +kernel) (by decide) c4 ?_
        obtain ⟨x3_5, ex3_5, E⟩ := lt_E E
        refine s_iinc (i := 3) (n := 1) (y := x3_5) X (by decide +kernel) 3 rfl (by decide) ex3_5 (ls_next (by decide) (Or.inr rfl) (ls_next (by decide) (Or.inr rfl) (ls_next (by decide) (Or.inr rfl) (ls_here ls_end)))) ?_
        refine g_goto (off := -28) (tgt := 2) X (by decide +kernel) (by decide) ?_
        exact ih x3_5 h  E
      · refine g_if_eq_f (off := 13) (tgt := 27) X (by decide +kernel) (by decide) c4 ?_
        refine g_aload_n (n := 0) X (by decide +kernel) 0 rfl ?_
        refine g_getS X (by decide +kernel) fl0_45 px0 ?_
        refine g_iload_n (n := 3) X (by decide +kernel) 3 rfl ?_
        refine g_dup2 X (by decide +kernel) rfl rfl ?_
        obtain ⟨c6, E⟩ := gd_E E
        refine g_iald X (by decide +kernel) (ly hK px0 fl0_45 rfl) c6 ?_
        refine g_iconst (n := 1) (x := (1 : Int32)) X (by decide +kernel) (by decide) ?_
        refine g_iadd X (by decide +kernel) ?_
        obtain ⟨c7, E⟩ := gd_E E
        obtain ⟨h8, eh8, E⟩ := lt_E E
        refine g_iast X (by decide +kernel) (ly hK px0 fl0_45 rfl) c7 eh8 ?_
        obtain ⟨x3_9, ex3_9, E⟩ := lt_E E
        refine s_iinc (i := 3) (n := 1) (y := x3_9) X (by decide +kernel) 3 rfl (by decide) ex3_9 (ls_next (by decide) (Or.inr rfl) (ls_next (by decide) (Or.inr rfl) (ls_next (by decide) (Or.inr rfl) (ls_here ls_end)))) ?_
        refine g_goto (off := -28) (tgt := 2) X (by decide +kernel) (by decide) ?_
        exact ih x3_9 h8  E
set_option maxHeartbeats 4000000 in
set_option maxRecDepth 20000 in
theorem c0_noteGot {sp : Sp} {K : Ly} {sz n : Nat} (hK : LyOk K) (o : Nat) (a1 : Nat) (a2 : Int32) (h : Hp) (ho : K o = some (.inl 0)) (ha1 : K a1 = some (.inl 3)) {hf : Hp} (E : f0_noteGot K n o a1 a2 h = some hf) : Con sp y0_noteGot prog_1_method_32_code 4 none 3 0 0 [.ref o, .ref a1, .int a2] sz K h none sz K hf := by
  refine Con.of (by decide) (Nat.le_of_ble_eq_true rfl) (fun Γ X _ => ?_)
  show Go Γ (0, 0) 0 [(0, .ref o), (1, .ref a1), (2, .int a2)] [] sz K h
  unfold f0_noteGot at E
  refine g_iconst (n := 0) (x := (0 : Int32)) X (by decide +kernel) (by decide) ?_
  refine s_istore_n (n := 3) (i := 3) X (by decide +kernel) rfl (by decide) rfl (ls_next (by decide) (Or.inr rfl) (ls_next (by decide) (Or.inr rfl) (ls_next (by decide) (Or.inr rfl) (ls_ins ls_end)))) ?_
  exact w0_noteGot_L2 X hK o a1 a2 ho ha1 n (0 : Int32) h E
-- AskedNames.tellingAsk
def f0_tellingAsk_L8 (K : Ly) (n : Nat) (x0 : Nat) (x1 : Nat) (x2 : Int32) (h : Hp)  : Nat → Int32 → Int32 → Int32 → Option (Int32)
  | 0, _, _, _ => none
  | k + 1, x3, x4, x5 =>
    if (h.1 x1 0) ≤ x5 then (
    some x3)
    else (
    if x2 ≤ 0 then (
    some x3)
    else (
    gd (inb x5 40) <|
    gd (inb x5 40) <|
    lt (jmax (h.1 (x0 + 1039) x5.toNatClampNeg) (x2 - (h.1 (x0 + 1039) x5.toNatClampNeg))) fun x6_5 =>
    bp (f3_asks K n x1 x5 h) fun y7 =>
    lt (x5 + (1 : Int32)) fun x5_11 =>
    f0_tellingAsk_L8 K n x0 x1 x2 h  k (if y7 = 0 then x3 else (if x3 = (-1 : Int32) then x5 else (if x4 ≤ x6_5 then x3 else x5))) (if y7 = 0 then x4 else (if x3 = (-1 : Int32) then x6_5 else (if x4 ≤ x6_5 then x4 else x6_5))) x5_11))
def f0_tellingAsk (K : Ly) (n : Nat) (o : Nat) (a1 : Nat) (a2 : Int32) (h : Hp) : Option (Int32) :=
    f0_tellingAsk_L8 K n o a1 a2 h n (-1 : Int32) (0 : Int32) (0 : Int32)
set_option maxHeartbeats 4000000 in
set_option maxRecDepth 20000 in
theorem w0_tellingAsk_L8 {Γ : CT} {sp : Sp} {K : Ly} {sz n : Nat} {v : Int32} {h : Hp}  (X : Ok Γ sp prog_1_method_33_code Rc0 7 (some (.int)) 2 (some (.int v)) sz K h) (hK : LyOk K) (x0 : Nat) (x1 : Nat) (x2 : Int32)  (px0 : K x0 = some (.inl 0)) (px1 : K x1 = some (.inl 3))  : ∀ (k : Nat) (x3 : Int32) (x4 : Int32) (x5 : Int32), f0_tellingAsk_L8 K n x0 x1 x2 h  k x3 x4 x5 = some v → Go Γ (0, 0) 8 [(0, .ref x0), (1, .ref x1), (2, .int x2), (3, .int x3), (4, .int x4), (5, .int x5)] [] sz K h := by
  intro k
  induction k with
  | zero => intro x3 x4 x5 E; cases E
  | succ k ih =>
    intro x3 x4 x5 E
    unfold f0_tellingAsk_L8 at E
    refine g_iload (n := 5) X (by decide +kernel) 5 rfl ?_
    refine g_aload_n (n := 1) X (by decide +kernel) 1 rfl ?_
    refine g_getI X (by decide +kernel) fl0_117 px1 ?_
    rcases it_E E with ⟨c1, E⟩ | ⟨c1, E⟩
    · refine g_icmp_ge_t (off := 62) (tgt := 76) X (by decide +kernel) (by decide) c1 ?_
      refine g_iload_n (n := 3) X (by decide +kernel) 3 rfl ?_
      obtain rfl := Option.some.inj E
      exact g_ireturn X (by decide +kernel)
    · refine g_icmp_ge_f (off := 62) (tgt := 76) X (by decide +kernel) (by decide) c1 ?_
      refine g_iload_n (n := 2) X (by decide +kernel) 2 rfl ?_
      rcases it_E E with ⟨c2, E⟩ | ⟨c2, E⟩
      · refine g_if_le_t (off := 58) (tgt := 76) X (by decide +kernel) (by decide) c2 ?_
        refine g_iload_n (n := 3) X (by decide +kernel) 3 rfl ?_
        obtain rfl := Option.some.inj E
        exact g_ireturn X (by decide +kernel)
      · refine g_if_le_f (off := 58) (tgt := 76) X (by decide +kernel) (by decide) c2 ?_
        refine g_aload_n (n := 0) X (by decide +kernel) 0 rfl ?_
        refine g_getS X (by decide +kernel) fl0_45 px0 ?_
        refine g_iload (n := 5) X (by decide +kernel) 5 rfl ?_
        obtain ⟨c3, E⟩ := gd_E E
        refine g_iald X (by decide +kernel) (ly hK px0 fl0_45 rfl) c3 ?_
        refine g_iload_n (n := 2) X (by decide +kernel) 2 rfl ?_
        refine g_aload_n (n := 0) X (by decide +kernel) 0 rfl ?_
        refine g_getS X (by decide +kernel) fl0_45 px0 ?_
        refine g_iload (n := 5) X (by decide +kernel) 5 rfl ?_
        obtain ⟨c4, E⟩ := gd_E E
        refine g_iald X (by decide +kernel) (ly hK px0 fl0_45 rfl) c4 ?_
        refine g_isub X (by decide +kernel) ?_
        refine g_mmax X (by decide +kernel) ml0_309 (by decide) (Nat.le_of_ble_eq_true rfl) ?_
        obtain ⟨x6_5, ex6_5, E⟩ := lt_E E
        refine s_istore (i := 6) X (by decide +kernel) (by decide) ex6_5 (ls_next (by decide) (Or.inr rfl) (ls_next (by decide) (Or.inr rfl) (ls_next (by decide) (Or.inr rfl) (ls_next (by decide) (Or.inr rfl) (ls_next (by decide) (Or.inr rfl) (ls_next (by decide) (Or.inr rfl) (ls_ins ls_end))))))) ?_
        refine g_aload_n (n := 1) X (by decide +kernel) 1 rfl ?_
        refine g_iload (n := 5) X (by decide +kernel) 5 rfl ?_
        obtain ⟨y7, e6, E⟩ := bp_E E
        refine g_callV1 (st := []) X [.int x5] (by decide +kernel) ml0_167 px1 rfl rfl (by decide) (Nat.le_of_ble_eq_true rfl) (c3_asks hK x1 x5 h px1 e6) ?_
        have hJ : Go Γ (0, 0) 70 [(0, .ref x0), (1, .ref x1), (2, .int x2), (3, .int (if y7 = 0 then x3 else (if x3 = (-1 : Int32) then x5 else (if x4 ≤ x6_5 then x3 else x5)))), (4, .int (if y7 = 0 then x4 else (if x3 = (-1 : Int32) then x6_5 else (if x4 ≤ x6_5 then x4 else x6_5)))), (5, .int x5)] [] sz K h := by
          obtain ⟨x5_11, ex5_11, E⟩ := lt_E E
          refine s_iinc (i := 5) (n := 1) (y := x5_11) X (by decide +kernel) 5 rfl (by decide) ex5_11 (ls_next (by decide) (Or.inr rfl) (ls_next (by decide) (Or.inr rfl) (ls_next (by decide) (Or.inr rfl) (ls_next (by decide) (Or.inr rfl) (ls_next (by decide) (Or.inr rfl) (ls_here ls_end)))))) ?_
          refine g_goto (off := -65) (tgt := 8) X (by decide +kernel) (by decide) ?_
          exact ih (if y7 = 0 then x3 else (if x3 = (-1 : Int32) then x5 else (if x4 ≤ x6_5 then x3 else x5))) (if y7 = 0 then x4 else (if x3 = (-1 : Int32) then x6_5 else (if x4 ≤ x6_5 then x4 else x6_5))) x5_11  E
        clear E
        by_cases c8 : y7 = 0
        · rw [if_pos c8, if_pos c8] at hJ
          refine g_if_eq_t (off := 22) (tgt := 70) X (by decide +kernel) (by decide) c8 ?_
          refine g_sub [0, 1, 2, 3, 4, 5] rfl ?_
          exact hJ
        · rw [if_neg c8, if_neg c8] at hJ
          refine g_if_eq_f (off := 22) (tgt := 70) X (by decide +kernel) (by decide) c8 ?_
          refine g_iload_n (n := 3) X (by decide +kernel) 3 rfl ?_
          refine g_iconst (n := -1) (x := (-1 : Int32)) X (by decide +kernel) (by decide) ?_
          by_cases c9 : x3 = (-1 : Int32)
          · rw [if_pos c9, if_pos c9] at hJ
            refine g_icmp_eq_t (off := 10) (tgt := 63) X (by decide +kernel) (by decide) c9 ?_
            refine g_iload (n := 5) X (by decide +kernel) 5 rfl ?_
            refine s_istore_n (n := 3) (i := 3) X (by decide +kernel) rfl (by decide) rfl (ls_next (by decide) (Or.inr rfl) (ls_next (by decide) (Or.inr rfl) (ls_next (by decide) (Or.inr rfl) (ls_here (ls_next (by decide) (Or.inr rfl) (ls_next (by decide) (Or.inr rfl) (ls_next (by decide) (Or.inr rfl) ls_end))))))) ?_
            refine g_iload (n := 6) X (by decide +kernel) 6 rfl ?_
            refine s_istore (i := 4) X (by decide +kernel) (by decide) rfl (ls_next (by decide) (Or.inr rfl) (ls_next (by decide) (Or.inr rfl) (ls_next (by decide) (Or.inr rfl) (ls_next (by decide) (Or.inr rfl) (ls_here (ls_next (by decide) (Or.inr rfl) (ls_next (by decide) (Or.inr rfl) ls_end))))))) ?_
            refine g_sub [0, 1, 2, 3, 4, 5] rfl ?_
            exact hJ
          · rw [if_neg c9, if_neg c9] at hJ
            refine g_icmp_eq_f (off := 10) (tgt := 63) X (by decide +kernel) (by decide) c9 ?_
            refine g_iload (n := 6) X (by decide +kernel) 6 rfl ?_
            refine g_iload (n := 4) X (by decide +kernel) 4 rfl ?_
            by_cases c10 : x4 ≤ x6_5
            · rw [if_pos c10, if_pos c10] at hJ
              refine g_icmp_ge_t (off := 10) (tgt := 70) X (by decide +kernel) (by decide) c10 ?_
              refine g_sub [0, 1, 2, 3, 4, 5] rfl ?_
              exact hJ
            · rw [if_neg c10, if_neg c10] at hJ
              refine g_icmp_ge_f (off := 10) (tgt := 70) X (by decide +kernel) (by decide) c10 ?_
              refine g_iload (n := 5) X (by decide +kernel) 5 rfl ?_
              refine s_istore_n (n := 3) (i := 3) X (by decide +kernel) rfl (by decide) rfl (ls_next (by decide) (Or.inr rfl) (ls_next (by decide) (Or.inr rfl) (ls_next (by decide) (Or.inr rfl) (ls_here (ls_next (by decide) (Or.inr rfl) (ls_next (by decide) (Or.inr rfl) (ls_next (by decide) (Or.inr rfl) ls_end))))))) ?_
              refine g_iload (n := 6) X (by decide +kernel) 6 rfl ?_
              refine s_istore (i := 4) X (by decide +kernel) (by decide) rfl (ls_next (by decide) (Or.inr rfl) (ls_next (by decide) (Or.inr rfl) (ls_next (by decide) (Or.inr rfl) (ls_next (by decide) (Or.inr rfl) (ls_here (ls_next (by decide) (Or.inr rfl) (ls_next (by decide) (Or.inr rfl) ls_end))))))) ?_
              refine g_sub [0, 1, 2, 3, 4, 5] rfl ?_
              exact hJ
set_option maxHeartbeats 4000000 in
set_option maxRecDepth 20000 in
theorem c0_tellingAsk {sp : Sp} {K : Ly} {sz n : Nat} (hK : LyOk K) (o : Nat) (a1 : Nat) (a2 : Int32) (h : Hp) (ho : K o = some (.inl 0)) (ha1 : K a1 = some (.inl 3)) {v : Int32} (E : f0_tellingAsk K n o a1 a2 h = some v) : Con sp y0_tellingAsk prog_1_method_33_code 7 (some (.int)) 2 0 0 [.ref o, .ref a1, .int a2] sz K h (some (.int v)) sz K h := by
  refine Con.of (by decide) (Nat.le_of_ble_eq_true rfl) (fun Γ X _ => ?_)
  show Go Γ (0, 0) 0 [(0, .ref o), (1, .ref a1), (2, .int a2)] [] sz K h
  unfold f0_tellingAsk at E
  refine g_iconst (n := -1) (x := (-1 : Int32)) X (by decide +kernel) (by decide) ?_
  refine s_istore_n (n := 3) (i := 3) X (by decide +kernel) rfl (by decide) rfl (ls_next (by decide) (Or.inr rfl) (ls_next (by decide) (Or.inr rfl) (ls_next (by decide) (Or.inr rfl) (ls_ins ls_end)))) ?_
  refine g_iconst (n := 0) (x := (0 : Int32)) X (by decide +kernel) (by decide) ?_
  refine s_istore (i := 4) X (by decide +kernel) (by decide) rfl (ls_next (by decide) (Or.inr rfl) (ls_next (by decide) (Or.inr rfl) (ls_next (by decide) (Or.inr rfl) (ls_next (by decide) (Or.inr rfl) (ls_ins ls_end))))) ?_
  refine g_iconst (n := 0) (x := (0 : Int32)) X (by decide +kernel) (by decide) ?_
  refine s_istore (i := 5) X (by decide +kernel) (by decide) rfl (ls_next (by decide) (Or.inr rfl) (ls_next (by decide) (Or.inr rfl) (ls_next (by decide) (Or.inr rfl) (ls_next (by decide) (Or.inr rfl) (ls_next (by decide) (Or.inr rfl) (ls_ins ls_end)))))) ?_
  exact w0_tellingAsk_L8 X hK o a1 a2 ho ha1 n (-1 : Int32) (0 : Int32) (0 : Int32) E
-- AskedNames.fits
def f0_fits_L71 (K : Ly) (n : Nat) (x0 : Nat) (x4 : Int32) (x5 : Nat) (x6 : Nat) (x7 : Nat)   : Nat → Int32 → Int32 → Hp → Option (Int32 × Hp)
  | 0, _, _, _ => none
  | k + 1, x8, x9, h =>
    if (h.1 x5 2) ≤ x9 then (
    if x4 = 0 then (
    some (x8, h))
    else (
    if x4 = (1 : Int32) then (
    bp (f0_tellingAsk K n x0 x6 x8 h) fun y19 =>
    some (y19, h))
    else (
    if x4 < (10 : Int32) then (
    some ((-2 : Int32), h))
    else (
    if x8 ≤ (x4 - (10 : Int32)) then (
    some ((-2 : Int32), h))
    else (
    gd (inb (x4 - (10 : Int32)) 16) <|
    some ((h.1 (x0 + 1038) (x4 - (10 : Int32)).toNatClampNeg), h))))))
    else (
    bd (f10_replay K n (x0 + 210) x5 x6 (h.1 x6 0) x9 h) fun y25 h24 =>
    if (16 : Int32) ≤ x8 then (
    lt (x9 + (1 : Int32)) fun x9_27 =>
    f0_fits_L71 K n x0 x4 x5 x6 x7  k x8 x9_27 h24)
    else (
    bp (f0_agrees K n x0 x6 x7 y25 h24) fun y29 =>
    if y29 = 0 then (
    lt (x9 + (1 : Int32)) fun x9_31 =>
    f0_fits_L71 K n x0 x4 x5 x6 x7  k x8 x9_31 h24)
    else (
    gd (inb x8 16) <|
    lt (sI h24 (x0 + 1038) x8.toNatClampNeg x9) fun h33 =>
    lt (x8 + (1 : Int32)) fun x8_34 =>
    bp (f0_noteGot K n x0 x6 y25 h33) fun h36 =>
    lt (x9 + (1 : Int32)) fun x9_37 =>
    f0_fits_L71 K n x0 x4 x5 x6 x7  k x8_34 x9_37 h36)))
def f0_fits_J57 (K : Ly) (n : Nat)  (x0 : Nat) (x4 : Int32) (x5 : Nat) (x6 : Nat) (x7 : Nat) (h : Hp) : Option (Int32 × Hp) :=
    bp (fJArrays_fill_IIV K n (x0 + 1039) 40 (0 : Int32) h) fun h14 =>
    f0_fits_L71 K n x0 x4 x5 x6 x7 n (0 : Int32) (-1 : Int32) h14
def f0_fits (K : Ly) (n : Nat) (o : Nat) (a1 : Int32) (a2 : Int32) (a3 : Int32) (a4 : Int32) (h : Hp) : Option (Int32 × Hp) :=
    bp (f0_netAt K n o a1 h) fun y2 =>
    bp (f0_runAt K n o a2 h) fun y4 =>
    bp (f0_logAt K n o a3 h) fun y6 =>
    nl y2 (
    some ((-2 : Int32), h)) fun o7 => gd (isO K o7 2) (
    nl y4 (
    some ((-2 : Int32), h)) fun o8 => gd (isO K o8 3) (
    nl y6 (
    some ((-2 : Int32), h)) fun o9 => gd (isO K o9 4) (
    if a4 < 0 then (
    some ((-2 : Int32), h))
    else (
    if a4 ≤ (1 : Int32) then (
    f0_fits_J57 K n o a4 o7 o8 o9 h)
    else (
    if (10 : Int32) ≤ a4 then (
    f0_fits_J57 K n o a4 o7 o8 o9 h)
    else (
    some ((-2 : Int32), h)))))))
set_option maxHeartbeats 4000000 in
set_option maxRecDepth 20000 in
theorem w0_fits_L71 {Γ : CT} {sp : Sp} {K : Ly} {sz n : Nat} {v : Int32} {hf : Hp}  (X : Ok Γ sp prog_1_method_19_code Rc0 11 (some (.int)) 8 (some (.int v)) sz K hf) (hK : LyOk K) (x0 : Nat) (x4 : Int32) (x5 : Nat) (x6 : Nat) (x7 : Nat)  (px0 : K x0 = some (.inl 0)) (px5 : K x5 = some (.inl 2)) (px6 : K x6 = some (.inl 3)) (px7 : K x7 = some (.inl 4))  : ∀ (k : Nat) (x8 : Int32) (x9 : Int32) (h : Hp), f0_fits_L71 K n x0 x4 x5 x6 x7  k x8 x9 h = some (v, hf) → Go Γ (0, 0) 71 [(0, .ref x0), (4, .int x4), (5, .ref x5), (6, .ref x6), (7, .ref x7), (8, .int x8), (9, .int x9)] [] sz K h := by
  intro k
  induction k with
  | zero => intro x8 x9 h E; cases E
  | succ k ih =>
    intro x8 x9 h E
    unfold f0_fits_L71 at E
    refine g_iload (n := 9) X (by decide +kernel) 6 rfl ?_
    refine g_aload (n := 5) X (by decide +kernel) 2 rfl ?_
    refine g_getI X (by decide +kernel) fl0_91 px5 ?_
    rcases it_E E with ⟨c15, E⟩ | ⟨c15, E⟩
    · refine g_icmp_ge_t (off := 72) (tgt := 150) X (by decide +kernel) (by decide) c15 ?_
      refine g_iload (n := 4) X (by decide +kernel) 1 rfl ?_
      rcases it_E E with ⟨c16, E⟩ | ⟨c16, E⟩
      · refine g_if_ne_f (off := 6) (tgt := 158) X (by decide +kernel) (by decide) (fun z => z c16) ?_
        refine g_iload (n := 8) X (by decide +kernel) 5 rfl ?_
        obtain ⟨rfl, rfl⟩ := rt_E E
        exact g_ireturn X (by decide +kernel)
      · refine g_if_ne_t (off := 6) (tgt := 158) X (by decide +kernel) (by decide) c16 ?_
        refine g_iload (n := 4) X (by decide +kernel) 1 rfl ?_
        refine g_iconst (n := 1) (x := (1 : Int32)) X (by decide +kernel) (by decide) ?_
        rcases it_E E with ⟨c17, E⟩ | ⟨c17, E⟩
        · refine g_icmp_ne_f (off := 12) (tgt := 173) X (by decide +kernel) (by decide) (fun z => z c17) ?_
          refine g_aload_n (n := 0) X (by decide +kernel) 0 rfl ?_
          refine g_aload (n := 6) X (by decide +kernel) 3 rfl ?_
          refine g_iload (n := 8) X (by decide +kernel) 5 rfl ?_
          obtain ⟨y19, e18, E⟩ := bp_E E
          refine g_callV1 (st := []) X [.ref x6, .int x8] (by decide +kernel) ml0_256 px0 rfl rfl (by decide) (Nat.le_of_ble_eq_true rfl) (c0_tellingAsk hK x0 x6 x8 h px0 px6 e18) ?_
          obtain ⟨rfl, rfl⟩ := rt_E E
          exact g_ireturn X (by decide +kernel)
        · refine g_icmp_ne_t (off := 12) (tgt := 173) X (by decide +kernel) (by decide) c17 ?_
          refine g_iload (n := 4) X (by decide +kernel) 1 rfl ?_
          refine g_bipush (n := 10) (x := (10 : Int32)) X (by decide +kernel) (by decide) ?_
          rcases it_E E with ⟨c20, E⟩ | ⟨c20, E⟩
          · refine g_icmp_lt_t (off := 26) (tgt := 203) X (by decide +kernel) (by decide) c20 ?_
            refine g_bipush (n := -2) (x := (-2 : Int32)) X (by decide +kernel) (by decide) ?_
            obtain ⟨rfl, rfl⟩ := rt_E E
            exact g_ireturn X (by decide +kernel)
          · refine g_icmp_lt_f (off := 26) (tgt := 203) X (by decide +kernel) (by decide) c20 ?_
            refine g_iload (n := 4) X (by decide +kernel) 1 rfl ?_
            refine g_bipush (n := 10) (x := (10 : Int32)) X (by decide +kernel) (by decide) ?_
            refine g_isub X (by decide +kernel) ?_
            refine g_iload (n := 8) X (by decide +kernel) 5 rfl ?_
            rcases it_E E with ⟨c21, E⟩ | ⟨c21, E⟩
            · refine g_icmp_ge_t (off := 16) (tgt := 203) X (by decide +kernel) (by decide) c21 ?_
              refine g_bipush (n := -2) (x := (-2 : Int32)) X (by decide +kernel) (by decide) ?_
              obtain ⟨rfl, rfl⟩ := rt_E E
              exact g_ireturn X (by decide +kernel)
            · refine g_icmp_ge_f (off := 16) (tgt := 203) X (by decide +kernel) (by decide) c21 ?_
              refine g_aload_n (n := 0) X (by decide +kernel) 0 rfl ?_
              refine g_getS X (by decide +kernel) fl0_42 px0 ?_
              refine g_iload (n := 4) X (by decide +kernel) 1 rfl ?_
              refine g_bipush (n := 10) (x := (10 : Int32)) X (by decide +kernel) (by decide) ?_
              refine g_isub X (by decide +kernel) ?_
              obtain ⟨c22, E⟩ := gd_E E
              refine g_iald X (by decide +kernel) (ly hK px0 fl0_42 rfl) c22 ?_
              refine g_goto (off := 5) (tgt := 205) X (by decide +kernel) (by decide) ?_
              obtain ⟨rfl, rfl⟩ := rt_E E
              exact g_ireturn X (by decide +kernel)
    · refine g_icmp_ge_f (off := 72) (tgt := 150) X (by decide +kernel) (by decide) c15 ?_
      refine g_aload_n (n := 0) X (by decide +kernel) 0 rfl ?_
      refine g_getS X (by decide +kernel) fl0_34 px0 ?_
      refine g_aload (n := 5) X (by decide +kernel) 2 rfl ?_
      refine g_aload (n := 6) X (by decide +kernel) 3 rfl ?_
      refine g_aload (n := 6) X (by decide +kernel) 3 rfl ?_
      refine g_getI X (by decide +kernel) fl0_117 px6 ?_
      refine g_iload (n := 9) X (by decide +kernel) 6 rfl ?_
      obtain ⟨y25, h24, e23, E⟩ := bd_E E
      refine g_callV1 (st := []) X [.ref x5, .ref x6, .int (h.1 x6 0), .int x9] (by decide +kernel) ml0_131 (ly hK px0 fl0_34 rfl) rfl rfl (by decide) (Nat.le_of_ble_eq_true rfl) (c10_replay hK (x0 + 210) x5 x6 (h.1 x6 0) x9 h (ly hK px0 fl0_34 rfl) px5 px6 e23) ?_
      refine s_istore (i := 10) X (by decide +kernel) (by decide) rfl (ls_next (by decide) (Or.inr rfl) (ls_next (by decide) (Or.inr rfl) (ls_next (by decide) (Or.inr rfl) (ls_next (by decide) (Or.inr rfl) (ls_next (by decide) (Or.inr rfl) (ls_next (by decide) (Or.inr rfl) (ls_next (by decide) (Or.inr rfl) (ls_ins ls_end)))))))) ?_
      refine g_iload (n := 8) X (by decide +kernel) 5 rfl ?_
      refine g_aload_n (n := 0) X (by decide +kernel) 0 rfl ?_
      refine g_getS X (by decide +kernel) fl0_42 px0 ?_
      refine g_alen (x := (16 : Int32)) X (by decide +kernel) (ly hK px0 fl0_42 rfl) ⟨_, rfl⟩ (by decide) ?_
      rcases it_E E with ⟨c26, E⟩ | ⟨c26, E⟩
      · refine g_icmp_ge_t (off := 36) (tgt := 144) X (by decide +kernel) (by decide) c26 ?_
        obtain ⟨x9_27, ex9_27, E⟩ := lt_E E
        refine s_iinc (i := 9) (n := 1) (y := x9_27) X (by decide +kernel) 6 rfl (by decide) ex9_27 (ls_next (by decide) (Or.inr rfl) (ls_next (by decide) (Or.inr rfl) (ls_next (by decide) (Or.inr rfl) (ls_next (by decide) (Or.inr rfl) (ls_next (by decide) (Or.inr rfl) (ls_next (by decide) (Or.inr rfl) (ls_here (ls_next (by decide) (Or.inr rfl) ls_end)))))))) ?_
        refine g_goto (off := -76) (tgt := 71) X (by decide +kernel) (by decide) ?_
        refine g_sub [0, 1, 2, 3, 4, 5, 6] rfl ?_
        exact ih x8 x9_27 h24  E
      · refine g_icmp_ge_f (off := 36) (tgt := 144) X (by decide +kernel) (by decide) c26 ?_
        refine g_aload_n (n := 0) X (by decide +kernel) 0 rfl ?_
        refine g_aload (n := 6) X (by decide +kernel) 3 rfl ?_
        refine g_aload (n := 7) X (by decide +kernel) 4 rfl ?_
        refine g_iload (n := 10) X (by decide +kernel) 7 rfl ?_
        obtain ⟨y29, e28, E⟩ := bp_E E
        refine g_callV1 (st := []) X [.ref x6, .ref x7, .int y25] (by decide +kernel) ml0_248 px0 rfl rfl (by decide) (Nat.le_of_ble_eq_true rfl) (c0_agrees hK x0 x6 x7 y25 h24 px0 px6 px7 e28) ?_
        rcases it_E E with ⟨c30, E⟩ | ⟨c30, E⟩
        · refine g_if_eq_t (off := 23) (tgt := 144) X (by decide +kernel) (by decide) c30 ?_
          obtain ⟨x9_31, ex9_31, E⟩ := lt_E E
          refine s_iinc (i := 9) (n := 1) (y := x9_31) X (by decide +kernel) 6 rfl (by decide) ex9_31 (ls_next (by decide) (Or.inr rfl) (ls_next (by decide) (Or.inr rfl) (ls_next (by decide) (Or.inr rfl) (ls_next (by decide) (Or.inr rfl) (ls_next (by decide) (Or.inr rfl) (ls_next (by decide) (Or.inr rfl) (ls_here (ls_next (by decide) (Or.inr rfl) ls_end)))))))) ?_
          refine g_goto (off := -76) (tgt := 71) X (by decide +kernel) (by decide) ?_
          refine g_sub [0, 1, 2, 3, 4, 5, 6] rfl ?_
          exact ih x8 x9_31 h24  E
        · refine g_if_eq_f (off := 23) (tgt := 144) X (by decide +kernel) (by decide) c30 ?_
          refine g_aload_n (n := 0) X (by decide +kernel) 0 rfl ?_
          refine g_getS X (by decide +kernel) fl0_42 px0 ?_
          refine g_iload (n := 8) X (by decide +kernel) 5 rfl ?_
          refine g_iload (n := 9) X (by decide +kernel) 6 rfl ?_
          obtain ⟨c32, E⟩ := gd_E E
          obtain ⟨h33, eh33, E⟩ := lt_E E
          refine g_iast X (by decide +kernel) (ly hK px0 fl0_42 rfl) c32 eh33 ?_
          obtain ⟨x8_34, ex8_34, E⟩ := lt_E E
          refine s_iinc (i := 8) (n := 1) (y := x8_34) X (by decide +kernel) 5 rfl (by decide) ex8_34 (ls_next (by decide) (Or.inr rfl) (ls_next (by decide) (Or.inr rfl) (ls_next (by decide) (Or.inr rfl) (ls_next (by decide) (Or.inr rfl) (ls_next (by decide) (Or.inr rfl) (ls_here (ls_next (by decide) (Or.inr rfl) (ls_next (by decide) (Or.inr rfl) ls_end)))))))) ?_
          refine g_aload_n (n := 0) X (by decide +kernel) 0 rfl ?_
          refine g_aload (n := 6) X (by decide +kernel) 3 rfl ?_
          refine g_iload (n := 10) X (by decide +kernel) 7 rfl ?_
          obtain ⟨h36, e35, E⟩ := bp_E E
          refine g_callV0 (st := []) X [.ref x6, .int y25] (by decide +kernel) ml0_252 px0 rfl rfl (by decide) (Nat.le_of_ble_eq_true rfl) (c0_noteGot hK x0 x6 y25 h33 px0 px6 e35) ?_
          obtain ⟨x9_37, ex9_37, E⟩ := lt_E E
          refine s_iinc (i := 9) (n := 1) (y := x9_37) X (by decide +kernel) 6 rfl (by decide) ex9_37 (ls_next (by decide) (Or.inr rfl) (ls_next (by decide) (Or.inr rfl) (ls_next (by decide) (Or.inr rfl) (ls_next (by decide) (Or.inr rfl) (ls_next (by decide) (Or.inr rfl) (ls_next (by decide) (Or.inr rfl) (ls_here (ls_next (by decide) (Or.inr rfl) ls_end)))))))) ?_
          refine g_goto (off := -76) (tgt := 71) X (by decide +kernel) (by decide) ?_
          refine g_sub [0, 1, 2, 3, 4, 5, 6] rfl ?_
          exact ih x8_34 x9_37 h36  E
set_option maxHeartbeats 4000000 in
set_option maxRecDepth 20000 in
theorem w0_fits_J57 {Γ : CT} {sp : Sp} {K : Ly} {sz n : Nat} {v : Int32} {hf : Hp}   (X : Ok Γ sp prog_1_method_19_code Rc0 11 (some (.int)) 8 (some (.int v)) sz K hf) (hK : LyOk K) (x0 : Nat) (x4 : Int32) (x5 : Nat) (x6 : Nat) (x7 : Nat) (h : Hp)  (px0 : K x0 = some (.inl 0)) (px5 : K x5 = some (.inl 2)) (px6 : K x6 = some (.inl 3)) (px7 : K x7 = some (.inl 4)) (E : f0_fits_J57 K n x0 x4 x5 x6 x7 h = some (v, hf)) : Go Γ (0, 0) 57 [(0, .ref x0), (4, .int x4), (5, .ref x5), (6, .ref x6), (7, .ref x7)] [] sz K h := by
  unfold f0_fits_J57 at E
  refine g_iconst (n := 0) (x := (0 : Int32)) X (by decide +kernel) (by decide) ?_
  refine s_istore (i := 8) X (by decide +kernel) (by decide) rfl (ls_next (by decide) (Or.inr rfl) (ls_next (by decide) (Or.inr rfl) (ls_next (by decide) (Or.inr rfl) (ls_next (by decide) (Or.inr rfl) (ls_next (by decide) (Or.inr rfl) (ls_ins ls_end)))))) ?_
  refine g_aload_n (n := 0) X (by decide +kernel) 0 rfl ?_
  refine g_getS X (by decide +kernel) fl0_45 px0 ?_
  refine g_iconst (n := 0) (x := (0 : Int32)) X (by decide +kernel) (by decide) ?_
  obtain ⟨h14, e13, E⟩ := bp_E E
  refine g_callS0 (st := []) X [.ref (x0 + 1039), .int (0 : Int32)] (by decide +kernel) ml0_214 (by decide) (Nat.le_of_ble_eq_true rfl) (cJArrays_fill_IIV hK (x0 + 1039) 40 (0 : Int32) h (ly hK px0 fl0_45 rfl) e13) ?_
  refine g_iconst (n := -1) (x := (-1 : Int32)) X (by decide +kernel) (by decide) ?_
  refine s_istore (i := 9) X (by decide +kernel) (by decide) rfl (ls_next (by decide) (Or.inr rfl) (ls_next (by decide) (Or.inr rfl) (ls_next (by decide) (Or.inr rfl) (ls_next (by decide) (Or.inr rfl) (ls_next (by decide) (Or.inr rfl) (ls_next (by decide) (Or.inr rfl) (ls_ins ls_end))))))) ?_
  exact w0_fits_L71 X hK x0 x4 x5 x6 x7 px0 px5 px6 px7 n (0 : Int32) (-1 : Int32) h14 E
set_option maxHeartbeats 4000000 in
set_option maxRecDepth 20000 in
theorem c0_fits {sp : Sp} {K : Ly} {sz n : Nat} (hK : LyOk K) (o : Nat) (a1 : Int32) (a2 : Int32) (a3 : Int32) (a4 : Int32) (h : Hp) (ho : K o = some (.inl 0)) {v : Int32} {hf : Hp} (E : f0_fits K n o a1 a2 a3 a4 h = some (v, hf)) : Con sp y0_fits prog_1_method_19_code 11 (some (.int)) 8 0 0 [.ref o, .int a1, .int a2, .int a3, .int a4] sz K h (some (.int v)) sz K hf := by
  refine Con.of (by decide) (Nat.le_of_ble_eq_true rfl) (fun Γ X _ => ?_)
  show Go Γ (0, 0) 0 [(0, .ref o), (1, .int a1), (2, .int a2), (3, .int a3), (4, .int a4)] [] sz K h
  unfold f0_fits at E
  refine g_aload_n (n := 0) X (by decide +kernel) 0 rfl ?_
  refine g_iload_n (n := 1) X (by decide +kernel) 1 rfl ?_
  obtain ⟨y2, e1, E⟩ := bp_E E
  refine g_callV1 (st := []) X [.int a1] (by decide +kernel) ml0_79 ho rfl rfl (by decide) (Nat.le_of_ble_eq_true rfl) (c0_netAt hK o a1 h ho e1) ?_
  refine s_qstore (i := 5) X (by decide +kernel) (by decide) rfl (ls_next (by decide) (Or.inr rfl) (ls_next (by decide) (Or.inr rfl) (ls_next (by decide) (Or.inr rfl) (ls_next (by decide) (Or.inr rfl) (ls_next (by decide) (Or.inr rfl) (ls_ins ls_end)))))) ?_
  refine g_aload_n (n := 0) X (by decide +kernel) 0 rfl ?_
  refine g_iload_n (n := 2) X (by decide +kernel) 2 rfl ?_
  obtain ⟨y4, e3, E⟩ := bp_E E
  refine g_callV1 (st := []) X [.int a2] (by decide +kernel) ml0_113 ho rfl rfl (by decide) (Nat.le_of_ble_eq_true rfl) (c0_runAt hK o a2 h ho e3) ?_
  refine s_qstore (i := 6) X (by decide +kernel) (by decide) rfl (ls_next (by decide) (Or.inr rfl) (ls_next (by decide) (Or.inr rfl) (ls_next (by decide) (Or.inr rfl) (ls_next (by decide) (Or.inr rfl) (ls_next (by decide) (Or.inr rfl) (ls_next (by decide) (Or.inr (cat_rf _)) (ls_ins ls_end))))))) ?_
  refine g_aload_n (n := 0) X (by decide +kernel) 0 rfl ?_
  refine g_iload_n (n := 3) X (by decide +kernel) 3 rfl ?_
  obtain ⟨y6, e5, E⟩ := bp_E E
  refine g_callV1 (st := []) X [.int a3] (by decide +kernel) ml0_233 ho rfl rfl (by decide) (Nat.le_of_ble_eq_true rfl) (c0_logAt hK o a3 h ho e5) ?_
  refine s_qstore (i := 7) X (by decide +kernel) (by decide) rfl (ls_next (by decide) (Or.inr rfl) (ls_next (by decide) (Or.inr rfl) (ls_next (by decide) (Or.inr rfl) (ls_next (by decide) (Or.inr rfl) (ls_next (by decide) (Or.inr rfl) (ls_next (by decide) (Or.inr (cat_rf _)) (ls_next (by decide) (Or.inr (cat_rf _)) (ls_ins ls_end)))))))) ?_
  refine g_qload (n := 5) X (by decide +kernel) 5 rfl ?_
  rcases nl_E E with ⟨qo7, E⟩ | ⟨o7, qo7, E⟩
  · subst qo7
    refine g_ifnull_N (off := 31) (tgt := 54) X (by decide +kernel) (by decide) ?_
    refine g_bipush (n := -2) (x := (-2 : Int32)) X (by decide +kernel) (by decide) ?_
    obtain ⟨rfl, rfl⟩ := rt_E E
    exact g_ireturn X (by decide +kernel)
  · subst qo7
    obtain ⟨po7, E⟩ := gd_E E
    replace po7 := isO_of po7
    refine g_ifnull_R (off := 31) (tgt := 54) X (by decide +kernel) (by decide) ?_
    refine g_qload (n := 6) X (by decide +kernel) 6 rfl ?_
    rcases nl_E E with ⟨qo8, E⟩ | ⟨o8, qo8, E⟩
    · subst qo8
      refine g_ifnull_N (off := 26) (tgt := 54) X (by decide +kernel) (by decide) ?_
      refine g_bipush (n := -2) (x := (-2 : Int32)) X (by decide +kernel) (by decide) ?_
      obtain ⟨rfl, rfl⟩ := rt_E E
      exact g_ireturn X (by decide +kernel)
    · subst qo8
      obtain ⟨po8, E⟩ := gd_E E
      replace po8 := isO_of po8
      refine g_ifnull_R (off := 26) (tgt := 54) X (by decide +kernel) (by decide) ?_
      refine g_qload (n := 7) X (by decide +kernel) 7 rfl ?_
      rcases nl_E E with ⟨qo9, E⟩ | ⟨o9, qo9, E⟩
      · subst qo9
        refine g_ifnull_N (off := 21) (tgt := 54) X (by decide +kernel) (by decide) ?_
        refine g_bipush (n := -2) (x := (-2 : Int32)) X (by decide +kernel) (by decide) ?_
        obtain ⟨rfl, rfl⟩ := rt_E E
        exact g_ireturn X (by decide +kernel)
      · subst qo9
        obtain ⟨po9, E⟩ := gd_E E
        replace po9 := isO_of po9
        refine g_ifnull_R (off := 21) (tgt := 54) X (by decide +kernel) (by decide) ?_
        refine g_iload (n := 4) X (by decide +kernel) 4 rfl ?_
        rcases it_E E with ⟨c10, E⟩ | ⟨c10, E⟩
        · refine g_if_lt_t (off := 16) (tgt := 54) X (by decide +kernel) (by decide) c10 ?_
          refine g_bipush (n := -2) (x := (-2 : Int32)) X (by decide +kernel) (by decide) ?_
          obtain ⟨rfl, rfl⟩ := rt_E E
          exact g_ireturn X (by decide +kernel)
        · refine g_if_lt_f (off := 16) (tgt := 54) X (by decide +kernel) (by decide) c10 ?_
          refine g_iload (n := 4) X (by decide +kernel) 4 rfl ?_
          refine g_iconst (n := 1) (x := (1 : Int32)) X (by decide +kernel) (by decide) ?_
          rcases it_E E with ⟨c11, E⟩ | ⟨c11, E⟩
          · refine g_icmp_le_t (off := 13) (tgt := 57) X (by decide +kernel) (by decide) c11 ?_
            refine g_sub [0, 4, 5, 6, 7] rfl ?_
            exact w0_fits_J57 X hK o a4 o7 o8 o9 h ho po7 po8 po9 E
          · refine g_icmp_le_f (off := 13) (tgt := 57) X (by decide +kernel) (by decide) c11 ?_
            refine g_iload (n := 4) X (by decide +kernel) 4 rfl ?_
            refine g_bipush (n := 10) (x := (10 : Int32)) X (by decide +kernel) (by decide) ?_
            rcases it_E E with ⟨c12, E⟩ | ⟨c12, E⟩
            · refine g_icmp_ge_t (off := 6) (tgt := 57) X (by decide +kernel) (by decide) c12 ?_
              refine g_sub [0, 4, 5, 6, 7] rfl ?_
              exact w0_fits_J57 X hK o a4 o7 o8 o9 h ho po7 po8 po9 E
            · refine g_icmp_ge_f (off := 6) (tgt := 57) X (by decide +kernel) (by decide) c12 ?_
              refine g_bipush (n := -2) (x := (-2 : Int32)) X (by decide +kernel) (by decide) ?_
              obtain ⟨rfl, rfl⟩ := rt_E E
              exact g_ireturn X (by decide +kernel)
-- AskedNames.drawn
def f0_drawn (K : Ly) (n : Nat) (o : Nat) (a1 : Int32) (a2 : Int32) (a3 : Int32) (a4 : Int32) (h : Hp) : Option (Int32 × Hp) :=
    bp (f0_netAt K n o a1 h) fun y2 =>
    nl y2 (
    some ((-2 : Int32), h)) fun o3 => gd (isO K o3 2) (
    if a3 < 0 then (
    some ((-2 : Int32), h))
    else (
    if a3 ≤ (60 : Int32) then (
    bp (f10_draw K n (o + 210) o3 a2 a3 h) fun h7 =>
    bp (f10_look K n (o + 210) a4 h7) fun y9 =>
    some (y9, h7))
    else (
    some ((-2 : Int32), h))))
set_option maxHeartbeats 4000000 in
set_option maxRecDepth 20000 in
theorem c0_drawn {sp : Sp} {K : Ly} {sz n : Nat} (hK : LyOk K) (o : Nat) (a1 : Int32) (a2 : Int32) (a3 : Int32) (a4 : Int32) (h : Hp) (ho : K o = some (.inl 0)) {v : Int32} {hf : Hp} (E : f0_drawn K n o a1 a2 a3 a4 h = some (v, hf)) : Con sp y0_drawn prog_1_method_20_code 6 (some (.int)) 8 0 0 [.ref o, .int a1, .int a2, .int a3, .int a4] sz K h (some (.int v)) sz K hf := by
  refine Con.of (by decide) (Nat.le_of_ble_eq_true rfl) (fun Γ X _ => ?_)
  show Go Γ (0, 0) 0 [(0, .ref o), (1, .int a1), (2, .int a2), (3, .int a3), (4, .int a4)] [] sz K h
  unfold f0_drawn at E
  refine g_aload_n (n := 0) X (by decide +kernel) 0 rfl ?_
  refine g_iload_n (n := 1) X (by decide +kernel) 1 rfl ?_
  obtain ⟨y2, e1, E⟩ := bp_E E
  refine g_callV1 (st := []) X [.int a1] (by decide +kernel) ml0_79 ho rfl rfl (by decide) (Nat.le_of_ble_eq_true rfl) (c0_netAt hK o a1 h ho e1) ?_
  refine s_qstore (i := 5) X (by decide +kernel) (by decide) rfl (ls_next (by decide) (Or.inr rfl) (ls_next (by decide) (Or.inr rfl) (ls_next (by decide) (Or.inr rfl) (ls_next (by decide) (Or.inr rfl) (ls_next (by decide) (Or.inr rfl) (ls_ins ls_end)))))) ?_
  refine g_qload (n := 5) X (by decide +kernel) 5 rfl ?_
  rcases nl_E E with ⟨qo3, E⟩ | ⟨o3, qo3, E⟩
  · subst qo3
    refine g_ifnull_N (off := 13) (tgt := 22) X (by decide +kernel) (by decide) ?_
    refine g_bipush (n := -2) (x := (-2 : Int32)) X (by decide +kernel) (by decide) ?_
    obtain ⟨rfl, rfl⟩ := rt_E E
    exact g_ireturn X (by decide +kernel)
  · subst qo3
    obtain ⟨po3, E⟩ := gd_E E
    replace po3 := isO_of po3
    refine g_ifnull_R (off := 13) (tgt := 22) X (by decide +kernel) (by decide) ?_
    refine g_iload_n (n := 3) X (by decide +kernel) 3 rfl ?_
    rcases it_E E with ⟨c4, E⟩ | ⟨c4, E⟩
    · refine g_if_lt_t (off := 9) (tgt := 22) X (by decide +kernel) (by decide) c4 ?_
      refine g_bipush (n := -2) (x := (-2 : Int32)) X (by decide +kernel) (by decide) ?_
      obtain ⟨rfl, rfl⟩ := rt_E E
      exact g_ireturn X (by decide +kernel)
    · refine g_if_lt_f (off := 9) (tgt := 22) X (by decide +kernel) (by decide) c4 ?_
      refine g_iload_n (n := 3) X (by decide +kernel) 3 rfl ?_
      refine g_bipush (n := 60) (x := (60 : Int32)) X (by decide +kernel) (by decide) ?_
      rcases it_E E with ⟨c5, E⟩ | ⟨c5, E⟩
      · refine g_icmp_le_t (off := 6) (tgt := 25) X (by decide +kernel) (by decide) c5 ?_
        refine g_aload_n (n := 0) X (by decide +kernel) 0 rfl ?_
        refine g_getS X (by decide +kernel) fl0_34 ho ?_
        refine g_aload (n := 5) X (by decide +kernel) 5 rfl ?_
        refine g_iload_n (n := 2) X (by decide +kernel) 2 rfl ?_
        refine g_iload_n (n := 3) X (by decide +kernel) 3 rfl ?_
        obtain ⟨h7, e6, E⟩ := bp_E E
        refine g_callV0 (st := []) X [.ref o3, .int a2, .int a3] (by decide +kernel) ml0_260 (ly hK ho fl0_34 rfl) rfl rfl (by decide) (Nat.le_of_ble_eq_true rfl) (c10_draw hK (o + 210) o3 a2 a3 h (ly hK ho fl0_34 rfl) po3 e6) ?_
        refine g_aload_n (n := 0) X (by decide +kernel) 0 rfl ?_
        refine g_getS X (by decide +kernel) fl0_34 ho ?_
        refine g_iload (n := 4) X (by decide +kernel) 4 rfl ?_
        obtain ⟨y9, e8, E⟩ := bp_E E
        refine g_callV1 (st := []) X [.int a4] (by decide +kernel) ml0_135 (ly hK ho fl0_34 rfl) rfl rfl (by decide) (Nat.le_of_ble_eq_true rfl) (c10_look hK (o + 210) a4 h7 (ly hK ho fl0_34 rfl) e8) ?_
        obtain ⟨rfl, rfl⟩ := rt_E E
        exact g_ireturn X (by decide +kernel)
      · refine g_icmp_le_f (off := 6) (tgt := 25) X (by decide +kernel) (by decide) c5 ?_
        refine g_bipush (n := -2) (x := (-2 : Int32)) X (by decide +kernel) (by decide) ?_
        obtain ⟨rfl, rfl⟩ := rt_E E
        exact g_ireturn X (by decide +kernel)
-- AskedNames.mean
def f0_mean_J129 (K : Ly) (n : Nat)  (x6 : Int32) (s0 : Int32) (h : Hp) : Option (Int32) :=
    gd (decide (¬ (jmax x6 (1 : Int32)) = 0)) <|
    some (s0 / (jmax x6 (1 : Int32)))
def f0_mean_J118 (K : Ly) (n : Nat)  (x3 : Int32) (x4 : Int32) (x5 : Int32) (x6 : Int32) (h : Hp) : Option (Int32) :=
    f0_mean_J129 K n x6 (if x3 = 0 then x5 else x4) h
def f0_mean_L85 (K : Ly) (n : Nat) (x3 : Int32) (x4 : Int32) (x5 : Int32) (h : Hp)  : Nat → Int32 → Int32 → Int32 → Option (Int32)
  | 0, _, _, _ => none
  | k + 1, x6, x7, x8 =>
    if (64 : Int32) ≤ x8 then (
    f0_mean_J118 K n x3 x4 x5 x6 h)
    else (
    if x7 = 0 then (
    f0_mean_J118 K n x3 x4 x5 x6 h)
    else (
    gd (decide (¬ x7 = 0)) <|
    lt (x6 - x6 / x7 * x7) fun x9_17 =>
    lt (x8 + (1 : Int32)) fun x8_18 =>
    f0_mean_L85 K n x3 x4 x5 h  k x7 x9_17 x8_18))
def f0_mean_L9 (K : Ly) (n : Nat) (x0 : Nat) (x1 : Nat) (x2 : Int32) (x3 : Int32) (h : Hp)  : Nat → Int32 → Int32 → Int32 → Option (Int32)
  | 0, _, _, _ => none
  | k + 1, x4, x5, x6 =>
    if x2 ≤ x6 then (
    if x5 = 0 then (
    some (-1 : Int32))
    else (
    f0_mean_L85 K n x3 x4 x5 h n x5 x4 (0 : Int32)))
    else (
    bp (f0_got K n x0 x1 x6 x2 h) fun y4 =>
    if y4 = 0 then (
    lt (x6 + (1 : Int32)) fun x6_6 =>
    f0_mean_L9 K n x0 x1 x2 x3 h  k x4 x5 x6_6)
    else (
    gd (inb x6 60) <|
    ob (h.2.2 ((x0 + 210) + 21) x6.toNatClampNeg) K 9 fun o8 =>
    gd (inb x6 60) <|
    ob (h.2.2 ((x0 + 210) + 21) x6.toNatClampNeg) K 9 fun o10 =>
    lt (x4 + ((h.1 o8 2) - (h.1 o10 1))) fun x4_11 =>
    lt (x5 + (1 : Int32)) fun x5_12 =>
    lt (x6 + (1 : Int32)) fun x6_13 =>
    f0_mean_L9 K n x0 x1 x2 x3 h  k x4_11 x5_12 x6_13))
def f0_mean (K : Ly) (n : Nat) (o : Nat) (a1 : Nat) (a2 : Int32) (a3 : Int32) (h : Hp) : Option (Int32) :=
    f0_mean_L9 K n o a1 a2 a3 h n (0 : Int32) (0 : Int32) (0 : Int32)
set_option maxHeartbeats 4000000 in
set_option maxRecDepth 20000 in
theorem w0_mean_J129 {Γ : CT} {sp : Sp} {K : Ly} {sz n : Nat} {v : Int32} {h : Hp}   (X : Ok Γ sp prog_1_method_34_code Rc0 10 (some (.int)) 3 (some (.int v)) sz K h) (hK : LyOk K) (x6 : Int32) (s0 : Int32)    (E : f0_mean_J129 K n x6 s0 h = some v) : Go Γ (0, 0) 129 [(6, .int x6)] [.int s0] sz K h := by
  unfold f0_mean_J129 at E
  refine g_iload (n := 6) X (by decide +kernel) 0 rfl ?_
  refine g_iconst (n := 1) (x := (1 : Int32)) X (by decide +kernel) (by decide) ?_
  refine g_mmax X (by decide +kernel) ml0_309 (by decide) (Nat.le_of_ble_eq_true rfl) ?_
  obtain ⟨c20, E⟩ := gd_E E
  refine g_idiv X (by decide +kernel) (of_decide_eq_true c20) ?_
  obtain rfl := Option.some.inj E
  exact g_ireturn X (by decide +kernel)
set_option maxHeartbeats 4000000 in
set_option maxRecDepth 20000 in
theorem w0_mean_J118 {Γ : CT} {sp : Sp} {K : Ly} {sz n : Nat} {v : Int32} {h : Hp}   (X : Ok Γ sp prog_1_method_34_code Rc0 10 (some (.int)) 3 (some (.int v)) sz K h) (hK : LyOk K) (x3 : Int32) (x4 : Int32) (x5 : Int32) (x6 : Int32)    (E : f0_mean_J118 K n x3 x4 x5 x6 h = some v) : Go Γ (0, 0) 118 [(3, .int x3), (4, .int x4), (5, .int x5), (6, .int x6)] [] sz K h := by
  unfold f0_mean_J118 at E
  refine g_iload_n (n := 3) X (by decide +kernel) 0 rfl ?_
  have hJ : Go Γ (0, 0) 129 [(6, .int x6)] [.int (if x3 = 0 then x5 else x4)] sz K h := by
    exact w0_mean_J129 X hK x6 (if x3 = 0 then x5 else x4) E
  clear E
  by_cases c19 : x3 = 0
  · rw [if_pos c19] at hJ
    refine g_if_eq_t (off := 8) (tgt := 127) X (by decide +kernel) (by decide) c19 ?_
    refine g_iload (n := 5) X (by decide +kernel) 2 rfl ?_
    refine g_sub [3] rfl ?_
    exact hJ
  · rw [if_neg c19] at hJ
    refine g_if_eq_f (off := 8) (tgt := 127) X (by decide +kernel) (by decide) c19 ?_
    refine g_iload (n := 4) X (by decide +kernel) 1 rfl ?_
    refine g_goto (off := 5) (tgt := 129) X (by decide +kernel) (by decide) ?_
    refine g_sub [3] rfl ?_
    exact hJ
set_option maxHeartbeats 4000000 in
set_option maxRecDepth 20000 in
theorem w0_mean_L85 {Γ : CT} {sp : Sp} {K : Ly} {sz n : Nat} {v : Int32} {h : Hp}  (X : Ok Γ sp prog_1_method_34_code Rc0 10 (some (.int)) 3 (some (.int v)) sz K h) (hK : LyOk K) (x3 : Int32) (x4 : Int32) (x5 : Int32)    : ∀ (k : Nat) (x6 : Int32) (x7 : Int32) (x8 : Int32), f0_mean_L85 K n x3 x4 x5 h  k x6 x7 x8 = some v → Go Γ (0, 0) 85 [(3, .int x3), (4, .int x4), (5, .int x5), (6, .int x6), (7, .int x7), (8, .int x8)] [] sz K h := by
  intro k
  induction k with
  | zero => intro x6 x7 x8 E; cases E
  | succ k ih =>
    intro x6 x7 x8 E
    unfold f0_mean_L85 at E
    refine g_iload (n := 8) X (by decide +kernel) 5 rfl ?_
    refine g_bipush (n := 64) (x := (64 : Int32)) X (by decide +kernel) (by decide) ?_
    rcases it_E E with ⟨c14, E⟩ | ⟨c14, E⟩
    · refine g_icmp_ge_t (off := 29) (tgt := 118) X (by decide +kernel) (by decide) c14 ?_
      refine g_sub [0, 1, 2, 3] rfl ?_
      exact w0_mean_J118 X hK x3 x4 x5 x6 E
    · refine g_icmp_ge_f (off := 29) (tgt := 118) X (by decide +kernel) (by decide) c14 ?_
      refine g_iload (n := 7) X (by decide +kernel) 4 rfl ?_
      rcases it_E E with ⟨c15, E⟩ | ⟨c15, E⟩
      · refine g_if_eq_t (off := 24) (tgt := 118) X (by decide +kernel) (by decide) c15 ?_
        refine g_sub [0, 1, 2, 3] rfl ?_
        exact w0_mean_J118 X hK x3 x4 x5 x6 E
      · refine g_if_eq_f (off := 24) (tgt := 118) X (by decide +kernel) (by decide) c15 ?_
        refine g_iload (n := 6) X (by decide +kernel) 3 rfl ?_
        refine g_iload (n := 7) X (by decide +kernel) 4 rfl ?_
        obtain ⟨c16, E⟩ := gd_E E
        refine g_irem X (by decide +kernel) (of_decide_eq_true c16) ?_
        obtain ⟨x9_17, ex9_17, E⟩ := lt_E E
        refine s_istore (i := 9) X (by decide +kernel) (by decide) ex9_17 (ls_next (by decide) (Or.inr rfl) (ls_next (by decide) (Or.inr rfl) (ls_next (by decide) (Or.inr rfl) (ls_next (by decide) (Or.inr rfl) (ls_next (by decide) (Or.inr rfl) (ls_next (by decide) (Or.inr rfl) (ls_ins ls_end))))))) ?_
        refine g_iload (n := 7) X (by decide +kernel) 4 rfl ?_
        refine s_istore (i := 6) X (by decide +kernel) (by decide) rfl (ls_next (by decide) (Or.inr rfl) (ls_next (by decide) (Or.inr rfl) (ls_next (by decide) (Or.inr rfl) (ls_here (ls_next (by decide) (Or.inr rfl) (ls_next (by decide) (Or.inr rfl) (ls_next (by decide) (Or.inr rfl) ls_end))))))) ?_
        refine g_iload (n := 9) X (by decide +kernel) 6 rfl ?_
        refine s_istore (i := 7) X (by decide +kernel) (by decide) rfl (ls_next (by decide) (Or.inr rfl) (ls_next (by decide) (Or.inr rfl) (ls_next (by decide) (Or.inr rfl) (ls_next (by decide) (Or.inr rfl) (ls_here (ls_next (by decide) (Or.inr rfl) (ls_next (by decide) (Or.inr rfl) ls_end))))))) ?_
        obtain ⟨x8_18, ex8_18, E⟩ := lt_E E
        refine s_iinc (i := 8) (n := 1) (y := x8_18) X (by decide +kernel) 5 rfl (by decide) ex8_18 (ls_next (by decide) (Or.inr rfl) (ls_next (by decide) (Or.inr rfl) (ls_next (by decide) (Or.inr rfl) (ls_next (by decide) (Or.inr rfl) (ls_next (by decide) (Or.inr rfl) (ls_here (ls_next (by decide) (Or.inr rfl) ls_end))))))) ?_
        refine g_goto (off := -30) (tgt := 85) X (by decide +kernel) (by decide) ?_
        refine g_sub [0, 1, 2, 3, 4, 5] rfl ?_
        exact ih x7 x9_17 x8_18  E
set_option maxHeartbeats 4000000 in
set_option maxRecDepth 20000 in
theorem w0_mean_L9 {Γ : CT} {sp : Sp} {K : Ly} {sz n : Nat} {v : Int32} {h : Hp}  (X : Ok Γ sp prog_1_method_34_code Rc0 10 (some (.int)) 3 (some (.int v)) sz K h) (hK : LyOk K) (x0 : Nat) (x1 : Nat) (x2 : Int32) (x3 : Int32)  (px0 : K x0 = some (.inl 0)) (px1 : K x1 = some (.inl 3))  : ∀ (k : Nat) (x4 : Int32) (x5 : Int32) (x6 : Int32), f0_mean_L9 K n x0 x1 x2 x3 h  k x4 x5 x6 = some v → Go Γ (0, 0) 9 [(0, .ref x0), (1, .ref x1), (2, .int x2), (3, .int x3), (4, .int x4), (5, .int x5), (6, .int x6)] [] sz K h := by
  intro k
  induction k with
  | zero => intro x4 x5 x6 E; cases E
  | succ k ih =>
    intro x4 x5 x6 E
    unfold f0_mean_L9 at E
    refine g_iload (n := 6) X (by decide +kernel) 6 rfl ?_
    refine g_iload_n (n := 2) X (by decide +kernel) 2 rfl ?_
    rcases it_E E with ⟨c1, E⟩ | ⟨c1, E⟩
    · refine g_icmp_ge_t (off := 55) (tgt := 67) X (by decide +kernel) (by decide) c1 ?_
      refine g_iload (n := 5) X (by decide +kernel) 5 rfl ?_
      rcases it_E E with ⟨c2, E⟩ | ⟨c2, E⟩
      · refine g_if_ne_f (off := 5) (tgt := 74) X (by decide +kernel) (by decide) (fun z => z c2) ?_
        refine g_iconst (n := -1) (x := (-1 : Int32)) X (by decide +kernel) (by decide) ?_
        obtain rfl := Option.some.inj E
        exact g_ireturn X (by decide +kernel)
      · refine g_if_ne_t (off := 5) (tgt := 74) X (by decide +kernel) (by decide) c2 ?_
        refine g_iload (n := 5) X (by decide +kernel) 5 rfl ?_
        refine s_istore (i := 6) X (by decide +kernel) (by decide) rfl (ls_next (by decide) (Or.inr rfl) (ls_next (by decide) (Or.inr rfl) (ls_next (by decide) (Or.inr rfl) (ls_next (by decide) (Or.inr rfl) (ls_next (by decide) (Or.inr rfl) (ls_next (by decide) (Or.inr rfl) (ls_here ls_end))))))) ?_
        refine g_iload (n := 4) X (by decide +kernel) 4 rfl ?_
        refine s_istore (i := 7) X (by decide +kernel) (by decide) rfl (ls_next (by decide) (Or.inr rfl) (ls_next (by decide) (Or.inr rfl) (ls_next (by decide) (Or.inr rfl) (ls_next (by decide) (Or.inr rfl) (ls_next (by decide) (Or.inr rfl) (ls_next (by decide) (Or.inr rfl) (ls_next (by decide) (Or.inr rfl) (ls_ins ls_end)))))))) ?_
        refine g_iconst (n := 0) (x := (0 : Int32)) X (by decide +kernel) (by decide) ?_
        refine s_istore (i := 8) X (by decide +kernel) (by decide) rfl (ls_next (by decide) (Or.inr rfl) (ls_next (by decide) (Or.inr rfl) (ls_next (by decide) (Or.inr rfl) (ls_next (by decide) (Or.inr rfl) (ls_next (by decide) (Or.inr rfl) (ls_next (by decide) (Or.inr rfl) (ls_next (by decide) (Or.inr rfl) (ls_next (by decide) (Or.inr rfl) (ls_ins ls_end))))))))) ?_
        refine g_sub [3, 4, 5, 6, 7, 8] rfl ?_
        exact w0_mean_L85 X hK x3 x4 x5 n x5 x4 (0 : Int32) E
    · refine g_icmp_ge_f (off := 55) (tgt := 67) X (by decide +kernel) (by decide) c1 ?_
      refine g_aload_n (n := 0) X (by decide +kernel) 0 rfl ?_
      refine g_aload_n (n := 1) X (by decide +kernel) 1 rfl ?_
      refine g_iload (n := 6) X (by decide +kernel) 6 rfl ?_
      refine g_iload_n (n := 2) X (by decide +kernel) 2 rfl ?_
      obtain ⟨y4, e3, E⟩ := bp_E E
      refine g_callV1 (st := []) X [.ref x1, .int x6, .int x2] (by decide +kernel) ml0_303 px0 rfl rfl (by decide) (Nat.le_of_ble_eq_true rfl) (c0_got hK x0 x1 x6 x2 h px0 px1 e3) ?_
      rcases it_E E with ⟨c5, E⟩ | ⟨c5, E⟩
      · refine g_if_eq_t (off := 38) (tgt := 61) X (by decide +kernel) (by decide) c5 ?_
        obtain ⟨x6_6, ex6_6, E⟩ := lt_E E
        refine s_iinc (i := 6) (n := 1) (y := x6_6) X (by decide +kernel) 6 rfl (by decide) ex6_6 (ls_next (by decide) (Or.inr rfl) (ls_next (by decide) (Or.inr rfl) (ls_next (by decide) (Or.inr rfl) (ls_next (by decide) (Or.inr rfl) (ls_next (by decide) (Or.inr rfl) (ls_next (by decide) (Or.inr rfl) (ls_here ls_end))))))) ?_
        refine g_goto (off := -55) (tgt := 9) X (by decide +kernel) (by decide) ?_
        exact ih x4 x5 x6_6  E
      · refine g_if_eq_f (off := 38) (tgt := 61) X (by decide +kernel) (by decide) c5 ?_
        refine g_iload (n := 4) X (by decide +kernel) 4 rfl ?_
        refine g_aload_n (n := 0) X (by decide +kernel) 0 rfl ?_
        refine g_getS X (by decide +kernel) fl0_34 px0 ?_
        refine g_getS X (by decide +kernel) fl0_170 (ly hK px0 fl0_34 rfl) ?_
        refine g_iload (n := 6) X (by decide +kernel) 6 rfl ?_
        obtain ⟨c7, E⟩ := gd_E E
        obtain ⟨o8, qo8, po8, E⟩ := ob_E E
        refine g_aald (C := "AskedNames$Fate") X (by decide +kernel) (ly hK (ly hK px0 fl0_34 rfl) fl0_170 rfl) rfl rfl c7 qo8 ?_
        refine g_getI X (by decide +kernel) fl0_307 po8 ?_
        refine g_aload_n (n := 0) X (by decide +kernel) 0 rfl ?_
        refine g_getS X (by decide +kernel) fl0_34 px0 ?_
        refine g_getS X (by decide +kernel) fl0_170 (ly hK px0 fl0_34 rfl) ?_
        refine g_iload (n := 6) X (by decide +kernel) 6 rfl ?_
        obtain ⟨c9, E⟩ := gd_E E
        obtain ⟨o10, qo10, po10, E⟩ := ob_E E
        refine g_aald (C := "AskedNames$Fate") X (by decide +kernel) (ly hK (ly hK px0 fl0_34 rfl) fl0_170 rfl) rfl rfl c9 qo10 ?_
        refine g_getI X (by decide +kernel) fl0_314 po10 ?_
        refine g_isub X (by decide +kernel) ?_
        refine g_iadd X (by decide +kernel) ?_
        obtain ⟨x4_11, ex4_11, E⟩ := lt_E E
        refine s_istore (i := 4) X (by decide +kernel) (by decide) ex4_11 (ls_next (by decide) (Or.inr rfl) (ls_next (by decide) (Or.inr rfl) (ls_next (by decide) (Or.inr rfl) (ls_next (by decide) (Or.inr rfl) (ls_here (ls_next (by decide) (Or.inr rfl) (ls_next (by decide) (Or.inr rfl) ls_end))))))) ?_
        obtain ⟨x5_12, ex5_12, E⟩ := lt_E E
        refine s_iinc (i := 5) (n := 1) (y := x5_12) X (by decide +kernel) 5 rfl (by decide) ex5_12 (ls_next (by decide) (Or.inr rfl) (ls_next (by decide) (Or.inr rfl) (ls_next (by decide) (Or.inr rfl) (ls_next (by decide) (Or.inr rfl) (ls_next (by decide) (Or.inr rfl) (ls_here (ls_next (by decide) (Or.inr rfl) ls_end))))))) ?_
        obtain ⟨x6_13, ex6_13, E⟩ := lt_E E
        refine s_iinc (i := 6) (n := 1) (y := x6_13) X (by decide +kernel) 6 rfl (by decide) ex6_13 (ls_next (by decide) (Or.inr rfl) (ls_next (by decide) (Or.inr rfl) (ls_next (by decide) (Or.inr rfl) (ls_next (by decide) (Or.inr rfl) (ls_next (by decide) (Or.inr rfl) (ls_next (by decide) (Or.inr rfl) (ls_here ls_end))))))) ?_
        refine g_goto (off := -55) (tgt := 9) X (by decide +kernel) (by decide) ?_
        exact ih x4_11 x5_12 x6_13  E
set_option maxHeartbeats 4000000 in
set_option maxRecDepth 20000 in
theorem c0_mean {sp : Sp} {K : Ly} {sz n : Nat} (hK : LyOk K) (o : Nat) (a1 : Nat) (a2 : Int32) (a3 : Int32) (h : Hp) (ho : K o = some (.inl 0)) (ha1 : K a1 = some (.inl 3)) {v : Int32} (E : f0_mean K n o a1 a2 a3 h = some v) : Con sp y0_mean prog_1_method_34_code 10 (some (.int)) 3 0 0 [.ref o, .ref a1, .int a2, .int a3] sz K h (some (.int v)) sz K h := by
  refine Con.of (by decide) (Nat.le_of_ble_eq_true rfl) (fun Γ X _ => ?_)
  show Go Γ (0, 0) 0 [(0, .ref o), (1, .ref a1), (2, .int a2), (3, .int a3)] [] sz K h
  unfold f0_mean at E
  refine g_iconst (n := 0) (x := (0 : Int32)) X (by decide +kernel) (by decide) ?_
  refine s_istore (i := 4) X (by decide +kernel) (by decide) rfl (ls_next (by decide) (Or.inr rfl) (ls_next (by decide) (Or.inr rfl) (ls_next (by decide) (Or.inr rfl) (ls_next (by decide) (Or.inr rfl) (ls_ins ls_end))))) ?_
  refine g_iconst (n := 0) (x := (0 : Int32)) X (by decide +kernel) (by decide) ?_
  refine s_istore (i := 5) X (by decide +kernel) (by decide) rfl (ls_next (by decide) (Or.inr rfl) (ls_next (by decide) (Or.inr rfl) (ls_next (by decide) (Or.inr rfl) (ls_next (by decide) (Or.inr rfl) (ls_next (by decide) (Or.inr rfl) (ls_ins ls_end)))))) ?_
  refine g_iconst (n := 0) (x := (0 : Int32)) X (by decide +kernel) (by decide) ?_
  refine s_istore (i := 6) X (by decide +kernel) (by decide) rfl (ls_next (by decide) (Or.inr rfl) (ls_next (by decide) (Or.inr rfl) (ls_next (by decide) (Or.inr rfl) (ls_next (by decide) (Or.inr rfl) (ls_next (by decide) (Or.inr rfl) (ls_next (by decide) (Or.inr rfl) (ls_ins ls_end))))))) ?_
  exact w0_mean_L9 X hK o a1 a2 a3 ho ha1 n (0 : Int32) (0 : Int32) (0 : Int32) E
-- AskedNames.after
def f0_after_J90 (K : Ly) (n : Nat)  (s0 : Nat) (s1 : Nat) (s2 : Int32) (s3 : Int32) (h : Hp) : Option (Int32 × Hp) :=
    bp (f0_mean K n s0 s1 s2 s3 h) fun y16 =>
    some (y16, h)
def f0_after (K : Ly) (n : Nat) (o : Nat) (a1 : Int32) (a2 : Int32) (a3 : Int32) (h : Hp) : Option (Int32 × Hp) :=
    bp (f0_netAt K n o a1 h) fun y2 =>
    bp (f0_runAt K n o a2 h) fun y4 =>
    nl y2 (
    some ((-2 : Int32), h)) fun o5 => gd (isO K o5 2) (
    nl y4 (
    some ((-2 : Int32), h)) fun o6 => gd (isO K o6 3) (
    if a3 < 0 then (
    some ((-2 : Int32), h))
    else (
    if a3 ≤ (8 : Int32) then (
    bd (f10_replay K n (o + 210) o5 o6 (h.1 o6 0) (-1 : Int32) h) fun y11 h10 =>
    if (7 : Int32) ≤ a3 then (
    f0_after_J90 K n o o6 y11 (if a3 = (7 : Int32) then (1 : Int32) else (0 : Int32)) h10)
    else (
    gd (inb a3 7) <|
    some ((h10.1 ((o + 210) + 22) a3.toNatClampNeg), h10)))
    else (
    some ((-2 : Int32), h)))))
set_option maxHeartbeats 4000000 in
set_option maxRecDepth 20000 in
theorem w0_after_J90 {Γ : CT} {sp : Sp} {K : Ly} {sz n : Nat} {v : Int32} {hf : Hp}   (X : Ok Γ sp prog_1_method_21_code Rc0 7 (some (.int)) 8 (some (.int v)) sz K hf) (hK : LyOk K) (s0 : Nat) (s1 : Nat) (s2 : Int32) (s3 : Int32) (h : Hp)  (ps0 : K s0 = some (.inl 0)) (ps1 : K s1 = some (.inl 3)) (E : f0_after_J90 K n s0 s1 s2 s3 h = some (v, hf)) : Go Γ (0, 0) 90 [] [.int s3, .int s2, .ref s1, .ref s0] sz K h := by
  unfold f0_after_J90 at E
  obtain ⟨y16, e15, E⟩ := bp_E E
  refine g_callV1 (st := []) X [.ref s1, .int s2, .int s3] (by decide +kernel) ml0_264 ps0 rfl rfl (by decide) (Nat.le_of_ble_eq_true rfl) (c0_mean hK s0 s1 s2 s3 h ps0 ps1 e15) ?_
  obtain ⟨rfl, rfl⟩ := rt_E E
  exact g_ireturn X (by decide +kernel)
set_option maxHeartbeats 4000000 in
set_option maxRecDepth 20000 in
theorem c0_after {sp : Sp} {K : Ly} {sz n : Nat} (hK : LyOk K) (o : Nat) (a1 : Int32) (a2 : Int32) (a3 : Int32) (h : Hp) (ho : K o = some (.inl 0)) {v : Int32} {hf : Hp} (E : f0_after K n o a1 a2 a3 h = some (v, hf)) : Con sp y0_after prog_1_method_21_code 7 (some (.int)) 8 0 0 [.ref o, .int a1, .int a2, .int a3] sz K h (some (.int v)) sz K hf := by
  refine Con.of (by decide) (Nat.le_of_ble_eq_true rfl) (fun Γ X _ => ?_)
  show Go Γ (0, 0) 0 [(0, .ref o), (1, .int a1), (2, .int a2), (3, .int a3)] [] sz K h
  unfold f0_after at E
  refine g_aload_n (n := 0) X (by decide +kernel) 0 rfl ?_
  refine g_iload_n (n := 1) X (by decide +kernel) 1 rfl ?_
  obtain ⟨y2, e1, E⟩ := bp_E E
  refine g_callV1 (st := []) X [.int a1] (by decide +kernel) ml0_79 ho rfl rfl (by decide) (Nat.le_of_ble_eq_true rfl) (c0_netAt hK o a1 h ho e1) ?_
  refine s_qstore (i := 4) X (by decide +kernel) (by decide) rfl (ls_next (by decide) (Or.inr rfl) (ls_next (by decide) (Or.inr rfl) (ls_next (by decide) (Or.inr rfl) (ls_next (by decide) (Or.inr rfl) (ls_ins ls_end))))) ?_
  refine g_aload_n (n := 0) X (by decide +kernel) 0 rfl ?_
  refine g_iload_n (n := 2) X (by decide +kernel) 2 rfl ?_
  obtain ⟨y4, e3, E⟩ := bp_E E
  refine g_callV1 (st := []) X [.int a2] (by decide +kernel) ml0_113 ho rfl rfl (by decide) (Nat.le_of_ble_eq_true rfl) (c0_runAt hK o a2 h ho e3) ?_
  refine s_qstore (i := 5) X (by decide +kernel) (by decide) rfl (ls_next (by decide) (Or.inr rfl) (ls_next (by decide) (Or.inr rfl) (ls_next (by decide) (Or.inr rfl) (ls_next (by decide) (Or.inr rfl) (ls_next (by decide) (Or.inr (cat_rf _)) (ls_ins ls_end)))))) ?_
  refine g_qload (n := 4) X (by decide +kernel) 4 rfl ?_
  rcases nl_E E with ⟨qo5, E⟩ | ⟨o5, qo5, E⟩
  · subst qo5
    refine g_ifnull_N (off := 18) (tgt := 34) X (by decide +kernel) (by decide) ?_
    refine g_bipush (n := -2) (x := (-2 : Int32)) X (by decide +kernel) (by decide) ?_
    obtain ⟨rfl, rfl⟩ := rt_E E
    exact g_ireturn X (by decide +kernel)
  · subst qo5
    obtain ⟨po5, E⟩ := gd_E E
    replace po5 := isO_of po5
    refine g_ifnull_R (off := 18) (tgt := 34) X (by decide +kernel) (by decide) ?_
    refine g_qload (n := 5) X (by decide +kernel) 5 rfl ?_
    rcases nl_E E with ⟨qo6, E⟩ | ⟨o6, qo6, E⟩
    · subst qo6
      refine g_ifnull_N (off := 13) (tgt := 34) X (by decide +kernel) (by decide) ?_
      refine g_bipush (n := -2) (x := (-2 : Int32)) X (by decide +kernel) (by decide) ?_
      obtain ⟨rfl, rfl⟩ := rt_E E
      exact g_ireturn X (by decide +kernel)
    · subst qo6
      obtain ⟨po6, E⟩ := gd_E E
      replace po6 := isO_of po6
      refine g_ifnull_R (off := 13) (tgt := 34) X (by decide +kernel) (by decide) ?_
      refine g_iload_n (n := 3) X (by decide +kernel) 3 rfl ?_
      rcases it_E E with ⟨c7, E⟩ | ⟨c7, E⟩
      · refine g_if_lt_t (off := 9) (tgt := 34) X (by decide +kernel) (by decide) c7 ?_
        refine g_bipush (n := -2) (x := (-2 : Int32)) X (by decide +kernel) (by decide) ?_
        obtain ⟨rfl, rfl⟩ := rt_E E
        exact g_ireturn X (by decide +kernel)
      · refine g_if_lt_f (off := 9) (tgt := 34) X (by decide +kernel) (by decide) c7 ?_
        refine g_iload_n (n := 3) X (by decide +kernel) 3 rfl ?_
        refine g_bipush (n := 8) (x := (8 : Int32)) X (by decide +kernel) (by decide) ?_
        rcases it_E E with ⟨c8, E⟩ | ⟨c8, E⟩
        · refine g_icmp_le_t (off := 6) (tgt := 37) X (by decide +kernel) (by decide) c8 ?_
          refine g_aload_n (n := 0) X (by decide +kernel) 0 rfl ?_
          refine g_getS X (by decide +kernel) fl0_34 ho ?_
          refine g_aload (n := 4) X (by decide +kernel) 4 rfl ?_
          refine g_aload (n := 5) X (by decide +kernel) 5 rfl ?_
          refine g_aload (n := 5) X (by decide +kernel) 5 rfl ?_
          refine g_getI X (by decide +kernel) fl0_117 po6 ?_
          refine g_iconst (n := -1) (x := (-1 : Int32)) X (by decide +kernel) (by decide) ?_
          obtain ⟨y11, h10, e9, E⟩ := bd_E E
          refine g_callV1 (st := []) X [.ref o5, .ref o6, .int (h.1 o6 0), .int (-1 : Int32)] (by decide +kernel) ml0_131 (ly hK ho fl0_34 rfl) rfl rfl (by decide) (Nat.le_of_ble_eq_true rfl) (c10_replay hK (o + 210) o5 o6 (h.1 o6 0) (-1 : Int32) h (ly hK ho fl0_34 rfl) po5 po6 e9) ?_
          refine s_istore (i := 6) X (by decide +kernel) (by decide) rfl (ls_next (by decide) (Or.inr rfl) (ls_next (by decide) (Or.inr rfl) (ls_next (by decide) (Or.inr rfl) (ls_next (by decide) (Or.inr rfl) (ls_next (by decide) (Or.inr rfl) (ls_next (by decide) (Or.inr rfl) (ls_ins ls_end))))))) ?_
          refine g_iload_n (n := 3) X (by decide +kernel) 3 rfl ?_
          refine g_bipush (n := 7) (x := (7 : Int32)) X (by decide +kernel) (by decide) ?_
          rcases it_E E with ⟨c12, E⟩ | ⟨c12, E⟩
          · refine g_icmp_ge_t (off := 15) (tgt := 74) X (by decide +kernel) (by decide) c12 ?_
            refine g_aload_n (n := 0) X (by decide +kernel) 0 rfl ?_
            refine g_aload (n := 5) X (by decide +kernel) 5 rfl ?_
            refine g_iload (n := 6) X (by decide +kernel) 6 rfl ?_
            refine g_iload_n (n := 3) X (by decide +kernel) 3 rfl ?_
            refine g_bipush (n := 7) (x := (7 : Int32)) X (by decide +kernel) (by decide) ?_
            have hJ : Go Γ (0, 0) 90 [] [.int (if a3 = (7 : Int32) then (1 : Int32) else (0 : Int32)), .int y11, .ref o6, .ref o] sz K h10 := by
              exact w0_after_J90 X hK o o6 y11 (if a3 = (7 : Int32) then (1 : Int32) else (0 : Int32)) h10 ho po6 E
            clear E
            by_cases c13 : a3 = (7 : Int32)
            · rw [if_pos c13] at hJ
              refine g_icmp_ne_f (off := 7) (tgt := 89) X (by decide +kernel) (by decide) (fun z => z c13) ?_
              refine g_iconst (n := 1) (x := (1 : Int32)) X (by decide +kernel) (by decide) ?_
              refine g_goto (off := 4) (tgt := 90) X (by decide +kernel) (by decide) ?_
              refine g_sub [] rfl ?_
              exact hJ
            · rw [if_neg c13] at hJ
              refine g_icmp_ne_t (off := 7) (tgt := 89) X (by decide +kernel) (by decide) c13 ?_
              refine g_iconst (n := 0) (x := (0 : Int32)) X (by decide +kernel) (by decide) ?_
              refine g_sub [] rfl ?_
              exact hJ
          · refine g_icmp_ge_f (off := 15) (tgt := 74) X (by decide +kernel) (by decide) c12 ?_
            refine g_aload_n (n := 0) X (by decide +kernel) 0 rfl ?_
            refine g_getS X (by decide +kernel) fl0_34 ho ?_
            refine g_getS X (by decide +kernel) fl0_184 (ly hK ho fl0_34 rfl) ?_
            refine g_iload_n (n := 3) X (by decide +kernel) 3 rfl ?_
            obtain ⟨c14, E⟩ := gd_E E
            refine g_iald X (by decide +kernel) (ly hK (ly hK ho fl0_34 rfl) fl0_184 rfl) c14 ?_
            refine g_goto (off := 22) (tgt := 93) X (by decide +kernel) (by decide) ?_
            obtain ⟨rfl, rfl⟩ := rt_E E
            exact g_ireturn X (by decide +kernel)
        · refine g_icmp_le_f (off := 6) (tgt := 37) X (by decide +kernel) (by decide) c8 ?_
          refine g_bipush (n := -2) (x := (-2 : Int32)) X (by decide +kernel) (by decide) ?_
          obtain ⟨rfl, rfl⟩ := rt_E E
          exact g_ireturn X (by decide +kernel)
-- AskedNames.edges
def f0_edges (K : Ly) (n : Nat) (o : Nat) (a1 : Int32) (a2 : Int32) (h : Hp) : Option (Int32) :=
    bp (f0_netAt K n o a1 h) fun y2 =>
    nl y2 (
    some (-1 : Int32)) fun o3 => gd (isO K o3 2) (
    if a2 = (0 : Int32) then (
    bp (f2_serversAsBits K n o3 h) fun y6 =>
    some y6)
    else if a2 = (1 : Int32) then (
    bp (f2_leavesAsBits K n o3 h) fun y9 =>
    some y9)
    else if a2 = (2 : Int32) then (
    bp (f2_blindAsBits K n o3 h) fun y12 =>
    some y12)
    else if a2 = (3 : Int32) then (
    bp (f2_hiddenAsBits K n o3 h) fun y15 =>
    some y15)
    else if a2 = (4 : Int32) then (
    bp (f2_servedAsBits K n o3 h) fun y18 =>
    some y18)
    else (
    some (-1 : Int32)))
set_option maxHeartbeats 4000000 in
set_option maxRecDepth 20000 in
theorem c0_edges {sp : Sp} {K : Ly} {sz n : Nat} (hK : LyOk K) (o : Nat) (a1 : Int32) (a2 : Int32) (h : Hp) (ho : K o = some (.inl 0)) {v : Int32} (E : f0_edges K n o a1 a2 h = some v) : Con sp y0_edges prog_1_method_22_code 4 (some (.int)) 4 0 0 [.ref o, .int a1, .int a2] sz K h (some (.int v)) sz K h := by
  refine Con.of (by decide) (Nat.le_of_ble_eq_true rfl) (fun Γ X _ => ?_)
  show Go Γ (0, 0) 0 [(0, .ref o), (1, .int a1), (2, .int a2)] [] sz K h
  unfold f0_edges at E
  refine g_aload_n (n := 0) X (by decide +kernel) 0 rfl ?_
  refine g_iload_n (n := 1) X (by decide +kernel) 1 rfl ?_
  obtain ⟨y2, e1, E⟩ := bp_E E
  refine g_callV1 (st := []) X [.int a1] (by decide +kernel) ml0_79 ho rfl rfl (by decide) (Nat.le_of_ble_eq_true rfl) (c0_netAt hK o a1 h ho e1) ?_
  refine s_qstore_n (n := 3) (i := 3) X (by decide +kernel) rfl (by decide) rfl (ls_next (by decide) (Or.inr rfl) (ls_next (by decide) (Or.inr rfl) (ls_next (by decide) (Or.inr rfl) (ls_ins ls_end)))) ?_
  refine g_qload_n (n := 3) X (by decide +kernel) 3 rfl ?_
  rcases nl_E E with ⟨qo3, E⟩ | ⟨o3, qo3, E⟩
  · subst qo3
    refine g_ifnonnull_N (off := 5) (tgt := 12) X (by decide +kernel) (by decide) ?_
    refine g_iconst (n := -1) (x := (-1 : Int32)) X (by decide +kernel) (by decide) ?_
    obtain rfl := Option.some.inj E
    exact g_ireturn X (by decide +kernel)
  · subst qo3
    obtain ⟨po3, E⟩ := gd_E E
    replace po3 := isO_of po3
    refine g_ifnonnull_R (off := 5) (tgt := 12) X (by decide +kernel) (by decide) ?_
    refine g_iload_n (n := 2) X (by decide +kernel) 2 rfl ?_
    rcases it_E E with ⟨c4, E⟩ | ⟨c4, E⟩
    · refine g_tab_in (dflt := 60) (lo := 0) (hi := 4) (offs := #[35, 40, 45, 50, 55]) (len := 35) (off := 35) (tgt := 48) X (by decide +kernel) (by rw [c4]; decide) (by rw [c4]; decide) (by rw [c4]; decide) (by decide) ?_
      refine g_aload_n (n := 3) X (by decide +kernel) 3 rfl ?_
      obtain ⟨y6, e5, E⟩ := bp_E E
      refine g_callV1 (st := []) X [] (by decide +kernel) ml0_268 po3 rfl rfl (by decide) (Nat.le_of_ble_eq_true rfl) (c2_serversAsBits hK o3 h po3 e5) ?_
      obtain rfl := Option.some.inj E
      exact g_ireturn X (by decide +kernel)
    · rcases it_E E with ⟨c7, E⟩ | ⟨c7, E⟩
      · refine g_tab_in (dflt := 60) (lo := 0) (hi := 4) (offs := #[35, 40, 45, 50, 55]) (len := 35) (off := 40) (tgt := 53) X (by decide +kernel) (by rw [c7]; decide) (by rw [c7]; decide) (by rw [c7]; decide) (by decide) ?_
        refine g_aload_n (n := 3) X (by decide +kernel) 3 rfl ?_
        obtain ⟨y9, e8, E⟩ := bp_E E
        refine g_callV1 (st := []) X [] (by decide +kernel) ml0_272 po3 rfl rfl (by decide) (Nat.le_of_ble_eq_true rfl) (c2_leavesAsBits hK o3 h po3 e8) ?_
        obtain rfl := Option.some.inj E
        exact g_ireturn X (by decide +kernel)
      · rcases it_E E with ⟨c10, E⟩ | ⟨c10, E⟩
        · refine g_tab_in (dflt := 60) (lo := 0) (hi := 4) (offs := #[35, 40, 45, 50, 55]) (len := 35) (off := 45) (tgt := 58) X (by decide +kernel) (by rw [c10]; decide) (by rw [c10]; decide) (by rw [c10]; decide) (by decide) ?_
          refine g_aload_n (n := 3) X (by decide +kernel) 3 rfl ?_
          obtain ⟨y12, e11, E⟩ := bp_E E
          refine g_callV1 (st := []) X [] (by decide +kernel) ml0_275 po3 rfl rfl (by decide) (Nat.le_of_ble_eq_true rfl) (c2_blindAsBits hK o3 h po3 e11) ?_
          obtain rfl := Option.some.inj E
          exact g_ireturn X (by decide +kernel)
        · rcases it_E E with ⟨c13, E⟩ | ⟨c13, E⟩
          · refine g_tab_in (dflt := 60) (lo := 0) (hi := 4) (offs := #[35, 40, 45, 50, 55]) (len := 35) (off := 50) (tgt := 63) X (by decide +kernel) (by rw [c13]; decide) (by rw [c13]; decide) (by rw [c13]; decide) (by decide) ?_
            refine g_aload_n (n := 3) X (by decide +kernel) 3 rfl ?_
            obtain ⟨y15, e14, E⟩ := bp_E E
            refine g_callV1 (st := []) X [] (by decide +kernel) ml0_278 po3 rfl rfl (by decide) (Nat.le_of_ble_eq_true rfl) (c2_hiddenAsBits hK o3 h po3 e14) ?_
            obtain rfl := Option.some.inj E
            exact g_ireturn X (by decide +kernel)
          · rcases it_E E with ⟨c16, E⟩ | ⟨c16, E⟩
            · refine g_tab_in (dflt := 60) (lo := 0) (hi := 4) (offs := #[35, 40, 45, 50, 55]) (len := 35) (off := 55) (tgt := 68) X (by decide +kernel) (by rw [c16]; decide) (by rw [c16]; decide) (by rw [c16]; decide) (by decide) ?_
              refine g_aload_n (n := 3) X (by decide +kernel) 3 rfl ?_
              obtain ⟨y18, e17, E⟩ := bp_E E
              refine g_callV1 (st := []) X [] (by decide +kernel) ml0_281 po3 rfl rfl (by decide) (Nat.le_of_ble_eq_true rfl) (c2_servedAsBits hK o3 h po3 e17) ?_
              obtain rfl := Option.some.inj E
              exact g_ireturn X (by decide +kernel)
            · have z19 : a2.toInt < 0 ∨ 4 < a2.toInt := by
                have z := sw_out (x := a2) 0 4 (by decide) (by decide) (by
                  intro j hj
                  have hj2 : j = 0 ∨ j = 1 ∨ j = 2 ∨ j = 3 ∨ j = 4 := by omega
                  rcases hj2 with rfl | rfl | rfl | rfl | rfl
                  · exact c4
                  · exact c7
                  · exact c10
                  · exact c13
                  · exact c16)
                simpa using z
              refine g_tab_out (dflt := 60) (lo := 0) (hi := 4) (offs := #[35, 40, 45, 50, 55]) (len := 35) (tgt := 73) X (by decide +kernel) z19 (by decide) ?_
              refine g_iconst (n := -1) (x := (-1 : Int32)) X (by decide +kernel) (by decide) ?_
              obtain rfl := Option.some.inj E
              exact g_ireturn X (by decide +kernel)
-- AskedNames.count
def f0_count_J9 (K : Ly) (n : Nat)   (h : Hp) : Option (Int32) :=
    some (-2 : Int32)
def f0_count (K : Ly) (n : Nat) (o : Nat) (a1 : Int32) (h : Hp) : Option (Int32) :=
    if a1 < 0 then (
    f0_count_J9 K n h)
    else (
    if a1 < (3 : Int32) then (
    gd (inb a1 3) <|
    some (h.1 ((o + 1) + 2) a1.toNatClampNeg))
    else (
    f0_count_J9 K n h))
set_option maxHeartbeats 4000000 in
set_option maxRecDepth 20000 in
theorem w0_count_J9 {Γ : CT} {sp : Sp} {K : Ly} {sz n : Nat} {v : Int32} {h : Hp}   (X : Ok Γ sp prog_1_method_23_code Rc0 2 (some (.int)) 1 (some (.int v)) sz K h) (hK : LyOk K)     (E : f0_count_J9 K n h = some v) : Go Γ (0, 0) 9 [] [] sz K h := by
  unfold f0_count_J9 at E
  refine g_bipush (n := -2) (x := (-2 : Int32)) X (by decide +kernel) (by decide) ?_
  refine g_goto (off := 12) (tgt := 23) X (by decide +kernel) (by decide) ?_
  obtain rfl := Option.some.inj E
  exact g_ireturn X (by decide +kernel)
set_option maxHeartbeats 4000000 in
set_option maxRecDepth 20000 in
theorem c0_count {sp : Sp} {K : Ly} {sz n : Nat} (hK : LyOk K) (o : Nat) (a1 : Int32) (h : Hp) (ho : K o = some (.inl 0)) {v : Int32} (E : f0_count K n o a1 h = some v) : Con sp y0_count prog_1_method_23_code 2 (some (.int)) 1 0 0 [.ref o, .int a1] sz K h (some (.int v)) sz K h := by
  refine Con.of (by decide) (Nat.le_of_ble_eq_true rfl) (fun Γ X _ => ?_)
  show Go Γ (0, 0) 0 [(0, .ref o), (1, .int a1)] [] sz K h
  unfold f0_count at E
  refine g_iload_n (n := 1) X (by decide +kernel) 1 rfl ?_
  rcases it_E E with ⟨c1, E⟩ | ⟨c1, E⟩
  · refine g_if_lt_t (off := 8) (tgt := 9) X (by decide +kernel) (by decide) c1 ?_
    refine g_sub [] rfl ?_
    exact w0_count_J9 X hK  E
  · refine g_if_lt_f (off := 8) (tgt := 9) X (by decide +kernel) (by decide) c1 ?_
    refine g_iload_n (n := 1) X (by decide +kernel) 1 rfl ?_
    refine g_iconst (n := 3) (x := (3 : Int32)) X (by decide +kernel) (by decide) ?_
    rcases it_E E with ⟨c2, E⟩ | ⟨c2, E⟩
    · refine g_icmp_lt_t (off := 8) (tgt := 14) X (by decide +kernel) (by decide) c2 ?_
      refine g_aload_n (n := 0) X (by decide +kernel) 0 rfl ?_
      refine g_getS X (by decide +kernel) fl0_10 ho ?_
      refine g_getS X (by decide +kernel) fl0_62 (ly hK ho fl0_10 rfl) ?_
      refine g_iload_n (n := 1) X (by decide +kernel) 1 rfl ?_
      obtain ⟨c3, E⟩ := gd_E E
      refine g_iald X (by decide +kernel) (ly hK (ly hK ho fl0_10 rfl) fl0_62 rfl) c3 ?_
      obtain rfl := Option.some.inj E
      exact g_ireturn X (by decide +kernel)
    · refine g_icmp_lt_f (off := 8) (tgt := 14) X (by decide +kernel) (by decide) c2 ?_
      refine g_sub [] rfl ?_
      exact w0_count_J9 X hK  E
-- AskedNames.image
def f0_image (K : Ly) (n : Nat) (o : Nat) (a1 : Int32) (h : Hp) : Option (Int32 × Hp) :=
    if a1 < 0 then (
    some ((0 : Int32), h))
    else (
    if a1 < (3 : Int32) then (
    gd (inb a1 3) <|
    ob (h.2.2 (o + 47) a1.toNatClampNeg) K 1 fun o4 =>
    bp (f1_copy K n o4 (o + 1) h) fun h6 =>
    gd (inb a1 3) <|
    lt (sI h6 (o + 186) a1.toNatClampNeg 1) fun h8 =>
    some ((1 : Int32), h8))
    else (
    some ((0 : Int32), h)))
set_option maxHeartbeats 4000000 in
set_option maxRecDepth 20000 in
theorem c0_image {sp : Sp} {K : Ly} {sz n : Nat} (hK : LyOk K) (o : Nat) (a1 : Int32) (h : Hp) (ho : K o = some (.inl 0)) {v : Int32} {hf : Hp} (E : f0_image K n o a1 h = some (v, hf)) : Con sp y0_image prog_1_method_24_code 2 (some (.boolean)) 4 0 0 [.ref o, .int a1] sz K h (some (.int v)) sz K hf := by
  refine Con.of (by decide) (Nat.le_of_ble_eq_true rfl) (fun Γ X _ => ?_)
  show Go Γ (0, 0) 0 [(0, .ref o), (1, .int a1)] [] sz K h
  unfold f0_image at E
  refine g_iload_n (n := 1) X (by decide +kernel) 1 rfl ?_
  rcases it_E E with ⟨c1, E⟩ | ⟨c1, E⟩
  · refine g_if_lt_t (off := 8) (tgt := 9) X (by decide +kernel) (by decide) c1 ?_
    refine g_iconst (n := 0) (x := (0 : Int32)) X (by decide +kernel) (by decide) ?_
    obtain ⟨rfl, rfl⟩ := rt_E E
    exact g_zreturn X (by decide +kernel) rfl
  · refine g_if_lt_f (off := 8) (tgt := 9) X (by decide +kernel) (by decide) c1 ?_
    refine g_iload_n (n := 1) X (by decide +kernel) 1 rfl ?_
    refine g_iconst (n := 3) (x := (3 : Int32)) X (by decide +kernel) (by decide) ?_
    rcases it_E E with ⟨c2, E⟩ | ⟨c2, E⟩
    · refine g_icmp_lt_t (off := 5) (tgt := 11) X (by decide +kernel) (by decide) c2 ?_
      refine g_aload_n (n := 0) X (by decide +kernel) 0 rfl ?_
      refine g_getS X (by decide +kernel) fl0_16 ho ?_
      refine g_iload_n (n := 1) X (by decide +kernel) 1 rfl ?_
      obtain ⟨c3, E⟩ := gd_E E
      obtain ⟨o4, qo4, po4, E⟩ := ob_E E
      refine g_aald (C := "AskedNames$Told") X (by decide +kernel) (ly hK ho fl0_16 rfl) rfl rfl c3 qo4 ?_
      refine g_aload_n (n := 0) X (by decide +kernel) 0 rfl ?_
      refine g_getS X (by decide +kernel) fl0_10 ho ?_
      obtain ⟨h6, e5, E⟩ := bp_E E
      refine g_callV0 (st := []) X [.ref (o + 1)] (by decide +kernel) ml0_284 po4 rfl rfl (by decide) (Nat.le_of_ble_eq_true rfl) (c1_copy hK o4 (o + 1) h po4 (ly hK ho fl0_10 rfl) e5) ?_
      refine g_aload_n (n := 0) X (by decide +kernel) 0 rfl ?_
      refine g_getS X (by decide +kernel) fl0_20 ho ?_
      refine g_iload_n (n := 1) X (by decide +kernel) 1 rfl ?_
      refine g_iconst (n := 1) (x := (1 : Int32)) X (by decide +kernel) (by decide) ?_
      obtain ⟨c7, E⟩ := gd_E E
      obtain ⟨h8, eh8, E⟩ := lt_E E
      refine g_zast1 X (by decide +kernel) (ly hK ho fl0_20 rfl) c7 eh8 ?_
      refine g_iconst (n := 1) (x := (1 : Int32)) X (by decide +kernel) (by decide) ?_
      obtain ⟨rfl, rfl⟩ := rt_E E
      exact g_zreturn X (by decide +kernel) rfl
    · refine g_icmp_lt_f (off := 5) (tgt := 11) X (by decide +kernel) (by decide) c2 ?_
      refine g_iconst (n := 0) (x := (0 : Int32)) X (by decide +kernel) (by decide) ?_
      obtain ⟨rfl, rfl⟩ := rt_E E
      exact g_zreturn X (by decide +kernel) rfl
-- AskedNames.again
def f0_again (K : Ly) (n : Nat) (o : Nat) (a1 : Int32) (h : Hp) : Option (Int32 × Hp) :=
    if a1 < 0 then (
    some ((0 : Int32), h))
    else (
    if (3 : Int32) ≤ a1 then (
    some ((0 : Int32), h))
    else (
    gd (inb a1 3) <|
    if (h.1 (o + 186) a1.toNatClampNeg) = 0 then (
    some ((0 : Int32), h))
    else (
    gd (inb a1 3) <|
    ob (h.2.2 (o + 47) a1.toNatClampNeg) K 1 fun o6 =>
    bp (f1_copy K n (o + 1) o6 h) fun h8 =>
    some ((1 : Int32), h8))))
set_option maxHeartbeats 4000000 in
set_option maxRecDepth 20000 in
theorem c0_again {sp : Sp} {K : Ly} {sz n : Nat} (hK : LyOk K) (o : Nat) (a1 : Int32) (h : Hp) (ho : K o = some (.inl 0)) {v : Int32} {hf : Hp} (E : f0_again K n o a1 h = some (v, hf)) : Con sp y0_again prog_1_method_25_code 2 (some (.boolean)) 4 0 0 [.ref o, .int a1] sz K h (some (.int v)) sz K hf := by
  refine Con.of (by decide) (Nat.le_of_ble_eq_true rfl) (fun Γ X _ => ?_)
  show Go Γ (0, 0) 0 [(0, .ref o), (1, .int a1)] [] sz K h
  unfold f0_again at E
  refine g_iload_n (n := 1) X (by decide +kernel) 1 rfl ?_
  rcases it_E E with ⟨c1, E⟩ | ⟨c1, E⟩
  · refine g_if_lt_t (off := 17) (tgt := 18) X (by decide +kernel) (by decide) c1 ?_
    refine g_iconst (n := 0) (x := (0 : Int32)) X (by decide +kernel) (by decide) ?_
    obtain ⟨rfl, rfl⟩ := rt_E E
    exact g_zreturn X (by decide +kernel) rfl
  · refine g_if_lt_f (off := 17) (tgt := 18) X (by decide +kernel) (by decide) c1 ?_
    refine g_iload_n (n := 1) X (by decide +kernel) 1 rfl ?_
    refine g_iconst (n := 3) (x := (3 : Int32)) X (by decide +kernel) (by decide) ?_
    rcases it_E E with ⟨c2, E⟩ | ⟨c2, E⟩
    · refine g_icmp_ge_t (off := 12) (tgt := 18) X (by decide +kernel) (by decide) c2 ?_
      refine g_iconst (n := 0) (x := (0 : Int32)) X (by decide +kernel) (by decide) ?_
      obtain ⟨rfl, rfl⟩ := rt_E E
      exact g_zreturn X (by decide +kernel) rfl
    · refine g_icmp_ge_f (off := 12) (tgt := 18) X (by decide +kernel) (by decide) c2 ?_
      refine g_aload_n (n := 0) X (by decide +kernel) 0 rfl ?_
      refine g_getS X (by decide +kernel) fl0_20 ho ?_
      refine g_iload_n (n := 1) X (by decide +kernel) 1 rfl ?_
      obtain ⟨c3, E⟩ := gd_E E
      refine g_zald X (by decide +kernel) (ly hK ho fl0_20 rfl) c3 ?_
      rcases it_E E with ⟨c4, E⟩ | ⟨c4, E⟩
      · refine g_if_ne_f (off := 5) (tgt := 20) X (by decide +kernel) (by decide) (fun z => z c4) ?_
        refine g_iconst (n := 0) (x := (0 : Int32)) X (by decide +kernel) (by decide) ?_
        obtain ⟨rfl, rfl⟩ := rt_E E
        exact g_zreturn X (by decide +kernel) rfl
      · refine g_if_ne_t (off := 5) (tgt := 20) X (by decide +kernel) (by decide) c4 ?_
        refine g_aload_n (n := 0) X (by decide +kernel) 0 rfl ?_
        refine g_getS X (by decide +kernel) fl0_10 ho ?_
        refine g_aload_n (n := 0) X (by decide +kernel) 0 rfl ?_
        refine g_getS X (by decide +kernel) fl0_16 ho ?_
        refine g_iload_n (n := 1) X (by decide +kernel) 1 rfl ?_
        obtain ⟨c5, E⟩ := gd_E E
        obtain ⟨o6, qo6, po6, E⟩ := ob_E E
        refine g_aald (C := "AskedNames$Told") X (by decide +kernel) (ly hK ho fl0_16 rfl) rfl rfl c5 qo6 ?_
        obtain ⟨h8, e7, E⟩ := bp_E E
        refine g_callV0 (st := []) X [.ref o6] (by decide +kernel) ml0_284 (ly hK ho fl0_10 rfl) rfl rfl (by decide) (Nat.le_of_ble_eq_true rfl) (c1_copy hK (o + 1) o6 h (ly hK ho fl0_10 rfl) po6 e7) ?_
        refine g_iconst (n := 1) (x := (1 : Int32)) X (by decide +kernel) (by decide) ?_
        obtain ⟨rfl, rfl⟩ := rt_E E
        exact g_zreturn X (by decide +kernel) rfl
