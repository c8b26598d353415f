-- Reader.wordOf
def f5_wordOf (a0 : Int32) : Nat :=
    if a0 = (0 : Int32) then (
    0)
    else if a0 = (1 : Int32) then (
    1)
    else if a0 = (2 : Int32) then (
    2)
    else if a0 = (3 : Int32) then (
    3)
    else if a0 = (4 : Int32) then (
    4)
    else if a0 = (5 : Int32) then (
    5)
    else if a0 = (6 : Int32) then (
    6)
    else if a0 = (7 : Int32) then (
    7)
    else if a0 = (8 : Int32) then (
    8)
    else if a0 = (9 : Int32) then (
    9)
    else if a0 = (10 : Int32) then (
    10)
    else if a0 = (11 : Int32) then (
    11)
    else (
    12)
theorem f5_wordOf_lt (a0 : Int32) : f5_wordOf a0 < 24 := by
  unfold f5_wordOf
  (repeat' split) <;> decide
set_option maxHeartbeats 4000000 in
set_option maxRecDepth 20000 in
theorem c5_wordOf {sp : Sp} {K : Ly} {sz : Nat} (hK : LyOk K) (a0 : Int32) (h : Hp)  : Con sp y5_wordOf prog_8_method_11_code 1 (some (.object "java/lang/String")) 1 0 0 [.int a0] sz K h (some (.ref (sp.1 (f5_wordOf a0)))) sz K h := by
  obtain ⟨v, E⟩ : ∃ v, f5_wordOf a0 = v := ⟨_, rfl⟩
  rw [E]
  refine Con.of (by decide) (Nat.le_of_ble_eq_true rfl) (fun Γ X _ => ?_)
  show Go Γ (0, 0) 0 [(0, .int a0)] [] sz K h
  unfold f5_wordOf at E
  refine g_iload_n (n := 0) X (by decide +kernel) 0 rfl ?_
  rcases it_E E with ⟨c1, E⟩ | ⟨c1, E⟩
  · refine g_tab_in (dflt := 99) (lo := 0) (hi := 11) (offs := #[63, 66, 69, 72, 75, 78, 81, 84, 87, 90, 93, 96]) (len := 63) (off := 63) (tgt := 64) X (by decide +kernel) (by rw [c1]; decide) (by rw [c1]; decide) (by rw [c1]; decide) (by decide) ?_
    refine g_ldcS (idx := 165) (i := 0) X (by decide +kernel) rfl (by decide) rfl ?_
    subst E
    exact g_sreturn X (by decide +kernel) (Or.inl ⟨_, rfl⟩)
  · rcases it_E E with ⟨c2, E⟩ | ⟨c2, E⟩
    · refine g_tab_in (dflt := 99) (lo := 0) (hi := 11) (offs := #[63, 66, 69, 72, 75, 78, 81, 84, 87, 90, 93, 96]) (len := 63) (off := 66) (tgt := 67) X (by decide +kernel) (by rw [c2]; decide) (by rw [c2]; decide) (by rw [c2]; decide) (by decide) ?_
      refine g_ldcS (idx := 166) (i := 1) X (by decide +kernel) rfl (by decide) rfl ?_
      subst E
      exact g_sreturn X (by decide +kernel) (Or.inl ⟨_, rfl⟩)
    · rcases it_E E with ⟨c3, E⟩ | ⟨c3, E⟩
      · refine g_tab_in (dflt := 99) (lo := 0) (hi := 11) (offs := #[63, 66, 69, 72, 75, 78, 81, 84, 87, 90, 93, 96]) (len := 63) (off := 69) (tgt := 70) X (by decide +kernel) (by rw [c3]; decide) (by rw [c3]; decide) (by rw [c3]; decide) (by decide) ?_
        refine g_ldcS (idx := 167) (i := 2) X (by decide +kernel) rfl (by decide) rfl ?_
        subst E
        exact g_sreturn X (by decide +kernel) (Or.inl ⟨_, rfl⟩)
      · rcases it_E E with ⟨c4, E⟩ | ⟨c4, E⟩
        · refine g_tab_in (dflt := 99) (lo := 0) (hi := 11) (offs := #[63, 66, 69, 72, 75, 78, 81, 84, 87, 90, 93, 96]) (len := 63) (off := 72) (tgt := 73) X (by decide +kernel) (by rw [c4]; decide) (by rw [c4]; decide) (by rw [c4]; decide) (by decide) ?_
          refine g_ldcS (idx := 168) (i := 3) X (by decide +kernel) rfl (by decide) rfl ?_
          subst E
          exact g_sreturn X (by decide +kernel) (Or.inl ⟨_, rfl⟩)
        · rcases it_E E with ⟨c5, E⟩ | ⟨c5, E⟩
          · refine g_tab_in (dflt := 99) (lo := 0) (hi := 11) (offs := #[63, 66, 69, 72, 75, 78, 81, 84, 87, 90, 93, 96]) (len := 63) (off := 75) (tgt := 76) X (by decide +kernel) (by rw [c5]; decide) (by rw [c5]; decide) (by rw [c5]; decide) (by decide) ?_
            refine g_ldcS (idx := 170) (i := 4) X (by decide +kernel) rfl (by decide) rfl ?_
            subst E
            exact g_sreturn X (by decide +kernel) (Or.inl ⟨_, rfl⟩)
          · rcases it_E E with ⟨c6, E⟩ | ⟨c6, E⟩
            · refine g_tab_in (dflt := 99) (lo := 0) (hi := 11) (offs := #[63, 66, 69, 72, 75, 78, 81, 84, 87, 90, 93, 96]) (len := 63) (off := 78) (tgt := 79) X (by decide +kernel) (by rw [c6]; decide) (by rw [c6]; decide) (by rw [c6]; decide) (by decide) ?_
              refine g_ldcS (idx := 172) (i := 5) X (by decide +kernel) rfl (by decide) rfl ?_
              subst E
              exact g_sreturn X (by decide +kernel) (Or.inl ⟨_, rfl⟩)
            · rcases it_E E with ⟨c7, E⟩ | ⟨c7, E⟩
              · refine g_tab_in (dflt := 99) (lo := 0) (hi := 11) (offs := #[63, 66, 69, 72, 75, 78, 81, 84, 87, 90, 93, 96]) (len := 63) (off := 81) (tgt := 82) X (by decide +kernel) (by rw [c7]; decide) (by rw [c7]; decide) (by rw [c7]; decide) (by decide) ?_
                refine g_ldcS (idx := 174) (i := 6) X (by decide +kernel) rfl (by decide) rfl ?_
                subst E
                exact g_sreturn X (by decide +kernel) (Or.inl ⟨_, rfl⟩)
              · rcases it_E E with ⟨c8, E⟩ | ⟨c8, E⟩
                · refine g_tab_in (dflt := 99) (lo := 0) (hi := 11) (offs := #[63, 66, 69, 72, 75, 78, 81, 84, 87, 90, 93, 96]) (len := 63) (off := 84) (tgt := 85) X (by decide +kernel) (by rw [c8]; decide) (by rw [c8]; decide) (by rw [c8]; decide) (by decide) ?_
                  refine g_ldcS (idx := 176) (i := 7) X (by decide +kernel) rfl (by decide) rfl ?_
                  subst E
                  exact g_sreturn X (by decide +kernel) (Or.inl ⟨_, rfl⟩)
                · rcases it_E E with ⟨c9, E⟩ | ⟨c9, E⟩
                  · refine g_tab_in (dflt := 99) (lo := 0) (hi := 11) (offs := #[63, 66, 69, 72, 75, 78, 81, 84, 87, 90, 93, 96]) (len := 63) (off := 87) (tgt := 88) X (by decide +kernel) (by rw [c9]; decide) (by rw [c9]; decide) (by rw [c9]; decide) (by decide) ?_
                    refine g_ldcS (idx := 178) (i := 8) X (by decide +kernel) rfl (by decide) rfl ?_
                    subst E
                    exact g_sreturn X (by decide +kernel) (Or.inl ⟨_, rfl⟩)
                  · rcases it_E E with ⟨c10, E⟩ | ⟨c10, E⟩
                    · refine g_tab_in (dflt := 99) (lo := 0) (hi := 11) (offs := #[63, 66, 69, 72, 75, 78, 81, 84, 87, 90, 93, 96]) (len := 63) (off := 90) (tgt := 91) X (by decide +kernel) (by rw [c10]; decide) (by rw [c10]; decide) (by rw [c10]; decide) (by decide) ?_
                      refine g_ldcS (idx := 180) (i := 9) X (by decide +kernel) rfl (by decide) rfl ?_
                      subst E
                      exact g_sreturn X (by decide +kernel) (Or.inl ⟨_, rfl⟩)
                    · rcases it_E E with ⟨c11, E⟩ | ⟨c11, E⟩
                      · refine g_tab_in (dflt := 99) (lo := 0) (hi := 11) (offs := #[63, 66, 69, 72, 75, 78, 81, 84, 87, 90, 93, 96]) (len := 63) (off := 93) (tgt := 94) X (by decide +kernel) (by rw [c11]; decide) (by rw [c11]; decide) (by rw [c11]; decide) (by decide) ?_
                        refine g_ldcS (idx := 182) (i := 10) X (by decide +kernel) rfl (by decide) rfl ?_
                        subst E
                        exact g_sreturn X (by decide +kernel) (Or.inl ⟨_, rfl⟩)
                      · rcases it_E E with ⟨c12, E⟩ | ⟨c12, E⟩
                        · refine g_tab_in (dflt := 99) (lo := 0) (hi := 11) (offs := #[63, 66, 69, 72, 75, 78, 81, 84, 87, 90, 93, 96]) (len := 63) (off := 96) (tgt := 97) X (by decide +kernel) (by rw [c12]; decide) (by rw [c12]; decide) (by rw [c12]; decide) (by decide) ?_
                          refine g_ldcS (idx := 184) (i := 11) X (by decide +kernel) rfl (by decide) rfl ?_
                          subst E
                          exact g_sreturn X (by decide +kernel) (Or.inl ⟨_, rfl⟩)
                        · have z13 : a0.toInt < 0 ∨ 11 < a0.toInt := by
                            have z := sw_out (x := a0) 0 11 (by decide) (by decide) (by
                              intro j hj
                              have hj2 : j = 0 ∨ j = 1 ∨ j = 2 ∨ j = 3 ∨ j = 4 ∨ j = 5 ∨ j = 6 ∨ j = 7 ∨ j = 8 ∨ j = 9 ∨ j = 10 ∨ j = 11 := by omega
                              rcases hj2 with rfl | rfl | rfl | rfl | rfl | rfl | rfl | rfl | rfl | rfl | rfl | rfl
                              · exact c1
                              · exact c2
                              · exact c3
                              · exact c4
                              · exact c5
                              · exact c6
                              · exact c7
                              · exact c8
                              · exact c9
                              · exact c10
                              · exact c11
                              · exact c12)
                            simpa using z
                          refine g_tab_out (dflt := 99) (lo := 0) (hi := 11) (offs := #[63, 66, 69, 72, 75, 78, 81, 84, 87, 90, 93, 96]) (len := 63) (tgt := 100) X (by decide +kernel) z13 (by decide) ?_
                          refine g_ldcS (idx := 186) (i := 12) X (by decide +kernel) rfl (by decide) rfl ?_
                          subst E
                          exact g_sreturn X (by decide +kernel) (Or.inl ⟨_, rfl⟩)
-- Reader.isHere
def f5_isHere_L20 (K : Ly) (n : Nat) (x0 : Nat) (x1 : Nat) (h : Hp)  : Nat → Int32 → Option (Int32)
  | 0, _ => none
  | k + 1, x2 =>
    if (slen x1) ≤ x2 then (
    some (1 : Int32))
    else (
    oa (h.2.2 x0 4) K 1 fun o3 o3n =>
    gd (inb ((h.1 x0 9) + x2) o3n) <|
    gd (inb x2 (es_len.getD x1 0)) <|
    if (h.1 o3 ((h.1 x0 9) + x2).toNatClampNeg) = (sch x1 x2) then (
    lt (x2 + (1 : Int32)) fun x2_7 =>
    f5_isHere_L20 K n x0 x1 h  k x2_7)
    else (
    some (0 : Int32)))
def f5_isHere (K : Ly) (n : Nat) (o : Nat) (a1 : Nat) (h : Hp) : Option (Int32) :=
    if ((h.1 o 7) - (h.1 o 9)) = (slen a1) then (
    f5_isHere_L20 K n o a1 h n (0 : Int32))
    else (
    some (0 : Int32))
set_option maxHeartbeats 4000000 in
set_option maxRecDepth 20000 in
theorem w5_isHere_L20 {Γ : CT} {sp : Sp} {K : Ly} {sz n : Nat} {v : Int32} {h : Hp}  (X : Ok Γ sp prog_8_method_10_code Rc5 3 (some (.boolean)) 5 (some (.int v)) sz K h) (hK : LyOk K) (x0 : Nat) (x1 : Nat)  (px0 : K x0 = some (.inl 5)) (px1 : x1 < 24)  : ∀ (k : Nat) (x2 : Int32), f5_isHere_L20 K n x0 x1 h  k x2 = some v → Go Γ (0, 0) 20 [(0, .ref x0), (1, .ref (sp.1 x1)), (2, .int x2)] [] sz K h := by
  intro k
  induction k with
  | zero => intro x2 E; cases E
  | succ k ih =>
    intro x2 E
    unfold f5_isHere_L20 at E
    refine g_iload_n (n := 2) X (by decide +kernel) 2 rfl ?_
    refine g_aload_n (n := 1) X (by decide +kernel) 1 rfl ?_
    refine g_callT (st := [.int x2]) X [] (by decide +kernel) ml5_105 px1 rfl (by decide) (Nat.le_of_ble_eq_true rfl) (cs_length h x1 px1) ?_
    rcases it_E E with ⟨c2, E⟩ | ⟨c2, E⟩
    · refine g_icmp_ge_t (off := 30) (tgt := 55) X (by decide +kernel) (by decide) c2 ?_
      refine g_iconst (n := 1) (x := (1 : Int32)) X (by decide +kernel) (by decide) ?_
      obtain rfl := Option.some.inj E
      exact g_zreturn X (by decide +kernel) rfl
    · refine g_icmp_ge_f (off := 30) (tgt := 55) X (by decide +kernel) (by decide) c2 ?_
      refine g_aload_n (n := 0) X (by decide +kernel) 0 rfl ?_
      obtain ⟨o3, o3n, qo3, po3, E⟩ := oa_E E
      refine g_getR X (by decide +kernel) fl5_36 px0 qo3 ?_
      refine g_aload_n (n := 0) X (by decide +kernel) 0 rfl ?_
      refine g_getI X (by decide +kernel) fl5_53 px0 ?_
      refine g_iload_n (n := 2) X (by decide +kernel) 2 rfl ?_
      refine g_iadd X (by decide +kernel) ?_
      obtain ⟨c4, E⟩ := gd_E E
      refine g_bald X (by decide +kernel) po3 c4 ?_
      refine g_aload_n (n := 1) X (by decide +kernel) 1 rfl ?_
      refine g_iload_n (n := 2) X (by decide +kernel) 2 rfl ?_
      obtain ⟨c5, E⟩ := gd_E E
      refine g_callT (st := [.int (h.1 o3 ((h.1 x0 9) + x2).toNatClampNeg)]) X [.int x2] (by decide +kernel) ml5_109 px1 rfl (by decide) (Nat.le_of_ble_eq_true rfl) (cs_charAt h x1 px1 x2 c5) ?_
      rcases it_E E with ⟨c6, E⟩ | ⟨c6, E⟩
      · refine g_icmp_eq_t (off := 5) (tgt := 49) X (by decide +kernel) (by decide) c6 ?_
        obtain ⟨x2_7, ex2_7, E⟩ := lt_E E
        refine s_iinc (i := 2) (n := 1) (y := x2_7) X (by decide +kernel) 2 rfl (by decide) ex2_7 (ls_next (by decide) (Or.inr rfl) (ls_next (by decide) (Or.inr rfl) (ls_here ls_end))) ?_
        refine g_goto (off := -32) (tgt := 20) X (by decide +kernel) (by decide) ?_
        exact ih x2_7  E
      · refine g_icmp_eq_f (off := 5) (tgt := 49) X (by decide +kernel) (by decide) c6 ?_
        refine g_iconst (n := 0) (x := (0 : Int32)) X (by decide +kernel) (by decide) ?_
        obtain rfl := Option.some.inj E
        exact g_zreturn X (by decide +kernel) rfl
set_option maxHeartbeats 4000000 in
set_option maxRecDepth 20000 in
theorem c5_isHere {sp : Sp} {K : Ly} {sz n : Nat} (hK : LyOk K) (o : Nat) (a1 : Nat) (h : Hp) (ho : K o = some (.inl 5)) (ha1 : a1 < 24) {v : Int32} (E : f5_isHere K n o a1 h = some v) : Con sp y5_isHere prog_8_method_10_code 3 (some (.boolean)) 5 0 0 [.ref o, .ref (sp.1 a1)] sz K h (some (.int v)) sz K h := by
  refine Con.of (by decide) (Nat.le_of_ble_eq_true rfl) (fun Γ X _ => ?_)
  show Go Γ (0, 0) 0 [(0, .ref o), (1, .ref (sp.1 a1))] [] sz K h
  unfold f5_isHere at E
  refine g_aload_n (n := 0) X (by decide +kernel) 0 rfl ?_
  refine g_getI X (by decide +kernel) fl5_47 ho ?_
  refine g_aload_n (n := 0) X (by decide +kernel) 0 rfl ?_
  refine g_getI X (by decide +kernel) fl5_53 ho ?_
  refine g_isub X (by decide +kernel) ?_
  refine g_aload_n (n := 1) X (by decide +kernel) 1 rfl ?_
  refine g_callT (st := [.int ((h.1 o 7) - (h.1 o 9))]) X [] (by decide +kernel) ml5_105 ha1 rfl (by decide) (Nat.le_of_ble_eq_true rfl) (cs_length h a1 ha1) ?_
  rcases it_E E with ⟨c1, E⟩ | ⟨c1, E⟩
  · refine g_icmp_eq_t (off := 5) (tgt := 18) X (by decide +kernel) (by decide) c1 ?_
    refine g_iconst (n := 0) (x := (0 : Int32)) X (by decide +kernel) (by decide) ?_
    refine s_istore_n (n := 2) (i := 2) X (by decide +kernel) rfl (by decide) rfl (ls_next (by decide) (Or.inr rfl) (ls_next (by decide) (Or.inr rfl) (ls_ins ls_end))) ?_
    exact w5_isHere_L20 X hK o a1 ho ha1 n (0 : Int32) E
  · refine g_icmp_eq_f (off := 5) (tgt := 18) X (by decide +kernel) (by decide) c1 ?_
    refine g_iconst (n := 0) (x := (0 : Int32)) X (by decide +kernel) (by decide) ?_
    obtain rfl := Option.some.inj E
    exact g_zreturn X (by decide +kernel) rfl
-- Reader.verbHere
def f5_verbHere_L9 (K : Ly) (n : Nat) (x0 : Nat) (h : Hp)  : Nat → Int32 → Option (Int32)
  | 0, _ => none
  | k + 1, x1 =>
    gd (inb ((h.1 x0 6) + (1 : Int32)) 4) <|
    if (vrb ((h.1 x0 6) + (1 : Int32))) ≤ x1 then (
    some (-1 : Int32))
    else (
    bp (f5_isHere K n x0 (f5_wordOf x1) h) fun y6 =>
    if y6 = 0 then (
    lt (x1 + (1 : Int32)) fun x1_8 =>
    f5_verbHere_L9 K n x0 h  k x1_8)
    else (
    some x1))
def f5_verbHere (K : Ly) (n : Nat) (o : Nat) (h : Hp) : Option (Int32) :=
    gd (inb (h.1 o 6) 4) <|
    lt (vrb (h.1 o 6)) fun x1_2 =>
    f5_verbHere_L9 K n o h n x1_2
set_option maxHeartbeats 4000000 in
set_option maxRecDepth 20000 in
theorem w5_verbHere_L9 {Γ : CT} {sp : Sp} {K : Ly} {sz n : Nat} {v : Int32} {h : Hp}  (X : Ok Γ sp prog_8_method_9_code Rc5 2 (some (.int)) 6 (some (.int v)) sz K h) (hK : LyOk K) (x0 : Nat)  (px0 : K x0 = some (.inl 5))  : ∀ (k : Nat) (x1 : Int32), f5_verbHere_L9 K n x0 h  k x1 = some v → Go Γ (0, 0) 9 [(0, .ref x0), (1, .int x1)] [] sz K h := by
  intro k
  induction k with
  | zero => intro x1 E; cases E
  | succ k ih =>
    intro x1 E
    unfold f5_verbHere_L9 at E
    refine g_iload_n (n := 1) X (by decide +kernel) 1 rfl ?_
    refine g_verbs (idx := 155) X (by decide +kernel) (in_c3 118 rfl rfl) ?_
    refine g_aload_n (n := 0) X (by decide +kernel) 0 rfl ?_
    refine g_getI X (by decide +kernel) fl5_44 px0 ?_
    refine g_iconst (n := 1) (x := (1 : Int32)) X (by decide +kernel) (by decide) ?_
    refine g_iadd X (by decide +kernel) ?_
    obtain ⟨c3, E⟩ := gd_E E
    refine g_vald X (by decide +kernel) c3 ?_
    rcases it_E E with ⟨c4, E⟩ | ⟨c4, E⟩
    · refine g_icmp_ge_t (off := 22) (tgt := 42) X (by decide +kernel) (by decide) c4 ?_
      refine g_iconst (n := -1) (x := (-1 : Int32)) X (by decide +kernel) (by decide) ?_
      obtain rfl := Option.some.inj E
      exact g_ireturn X (by decide +kernel)
    · refine g_icmp_ge_f (off := 22) (tgt := 42) X (by decide +kernel) (by decide) c4 ?_
      refine g_aload_n (n := 0) X (by decide +kernel) 0 rfl ?_
      refine g_iload_n (n := 1) X (by decide +kernel) 1 rfl ?_
      refine g_callS1 (st := [.ref x0]) X [.int x1] (by decide +kernel) ml5_158 (by decide) (Nat.le_of_ble_eq_true rfl) (c5_wordOf hK x1 h ) ?_
      obtain ⟨y6, e5, E⟩ := bp_E E
      refine g_callV1 (st := []) X [.ref (sp.1 (f5_wordOf x1))] (by decide +kernel) ml5_161 px0 rfl rfl (by decide) (Nat.le_of_ble_eq_true rfl) (c5_isHere hK x0 (f5_wordOf x1) h px0 (f5_wordOf_lt x1) e5) ?_
      rcases it_E E with ⟨c7, E⟩ | ⟨c7, E⟩
      · refine g_if_eq_t (off := 5) (tgt := 36) X (by decide +kernel) (by decide) c7 ?_
        obtain ⟨x1_8, ex1_8, E⟩ := lt_E E
        refine s_iinc (i := 1) (n := 1) (y := x1_8) X (by decide +kernel) 1 rfl (by decide) ex1_8 (ls_next (by decide) (Or.inr rfl) (ls_here ls_end)) ?_
        refine g_goto (off := -30) (tgt := 9) X (by decide +kernel) (by decide) ?_
        exact ih x1_8  E
      · refine g_if_eq_f (off := 5) (tgt := 36) X (by decide +kernel) (by decide) c7 ?_
        refine g_iload_n (n := 1) X (by decide +kernel) 1 rfl ?_
        obtain rfl := Option.some.inj E
        exact g_ireturn X (by decide +kernel)
set_option maxHeartbeats 4000000 in
set_option maxRecDepth 20000 in
theorem c5_verbHere {sp : Sp} {K : Ly} {sz n : Nat} (hK : LyOk K) (o : Nat) (h : Hp) (ho : K o = some (.inl 5)) {v : Int32} (E : f5_verbHere K n o h = some v) : Con sp y5_verbHere prog_8_method_9_code 2 (some (.int)) 6 0 0 [.ref o] sz K h (some (.int v)) sz K h := by
  refine Con.of (by decide) (Nat.le_of_ble_eq_true rfl) (fun Γ X _ => ?_)
  show Go Γ (0, 0) 0 [(0, .ref o)] [] sz K h
  unfold f5_verbHere at E
  refine g_verbs (idx := 155) X (by decide +kernel) (in_c3 118 rfl rfl) ?_
  refine g_aload_n (n := 0) X (by decide +kernel) 0 rfl ?_
  refine g_getI X (by decide +kernel) fl5_44 ho ?_
  obtain ⟨c1, E⟩ := gd_E E
  refine g_vald X (by decide +kernel) c1 ?_
  obtain ⟨x1_2, ex1_2, E⟩ := lt_E E
  refine s_istore_n (n := 1) (i := 1) X (by decide +kernel) rfl (by decide) ex1_2 (ls_next (by decide) (Or.inr rfl) (ls_ins ls_end)) ?_
  exact w5_verbHere_L9 X hK o ho n x1_2 E
-- Reader.shapeOf
def f5_shapeOf (a0 : Int32) : Nat :=
    if a0 = (0 : Int32) then (
    13)
    else if a0 = (1 : Int32) then (
    14)
    else if a0 = (2 : Int32) then (
    15)
    else if a0 = (3 : Int32) then (
    16)
    else if a0 = (4 : Int32) then (
    17)
    else if a0 = (5 : Int32) then (
    18)
    else if a0 = (6 : Int32) then (
    19)
    else if a0 = (7 : Int32) then (
    19)
    else if a0 = (8 : Int32) then (
    20)
    else if a0 = (9 : Int32) then (
    21)
    else if a0 = (10 : Int32) then (
    21)
    else if a0 = (11 : Int32) then (
    22)
    else (
    23)
theorem f5_shapeOf_lt (a0 : Int32) : f5_shapeOf a0 < 24 := by
  unfold f5_shapeOf
  (repeat' split) <;> decide
set_option maxHeartbeats 4000000 in
set_option maxRecDepth 20000 in
theorem c5_shapeOf {sp : Sp} {K : Ly} {sz : Nat} (hK : LyOk K) (a0 : Int32) (h : Hp)  : Con sp y5_shapeOf prog_8_method_12_code 1 (some (.object "java/lang/String")) 1 0 0 [.int a0] sz K h (some (.ref (sp.1 (f5_shapeOf a0)))) sz K h := by
  obtain ⟨v, E⟩ : ∃ v, f5_shapeOf a0 = v := ⟨_, rfl⟩
  rw [E]
  refine Con.of (by decide) (Nat.le_of_ble_eq_true rfl) (fun Γ X _ => ?_)
  show Go Γ (0, 0) 0 [(0, .int a0)] [] sz K h
  unfold f5_shapeOf at E
  refine g_iload_n (n := 0) X (by decide +kernel) 0 rfl ?_
  rcases it_E E with ⟨c1, E⟩ | ⟨c1, E⟩
  · refine g_tab_in (dflt := 99) (lo := 0) (hi := 11) (offs := #[63, 66, 69, 72, 75, 78, 81, 84, 87, 90, 93, 96]) (len := 63) (off := 63) (tgt := 64) X (by decide +kernel) (by rw [c1]; decide) (by rw [c1]; decide) (by rw [c1]; decide) (by decide) ?_
    refine g_ldcS (idx := 188) (i := 13) X (by decide +kernel) rfl (by decide) rfl ?_
    subst E
    exact g_sreturn X (by decide +kernel) (Or.inl ⟨_, rfl⟩)
  · rcases it_E E with ⟨c2, E⟩ | ⟨c2, E⟩
    · refine g_tab_in (dflt := 99) (lo := 0) (hi := 11) (offs := #[63, 66, 69, 72, 75, 78, 81, 84, 87, 90, 93, 96]) (len := 63) (off := 66) (tgt := 67) X (by decide +kernel) (by rw [c2]; decide) (by rw [c2]; decide) (by rw [c2]; decide) (by decide) ?_
      refine g_ldcS (idx := 190) (i := 14) X (by decide +kernel) rfl (by decide) rfl ?_
      subst E
      exact g_sreturn X (by decide +kernel) (Or.inl ⟨_, rfl⟩)
    · rcases it_E E with ⟨c3, E⟩ | ⟨c3, E⟩
      · refine g_tab_in (dflt := 99) (lo := 0) (hi := 11) (offs := #[63, 66, 69, 72, 75, 78, 81, 84, 87, 90, 93, 96]) (len := 63) (off := 69) (tgt := 70) X (by decide +kernel) (by rw [c3]; decide) (by rw [c3]; decide) (by rw [c3]; decide) (by decide) ?_
        refine g_ldcS (idx := 192) (i := 15) X (by decide +kernel) rfl (by decide) rfl ?_
        subst E
        exact g_sreturn X (by decide +kernel) (Or.inl ⟨_, rfl⟩)
      · rcases it_E E with ⟨c4, E⟩ | ⟨c4, E⟩
        · refine g_tab_in (dflt := 99) (lo := 0) (hi := 11) (offs := #[63, 66, 69, 72, 75, 78, 81, 84, 87, 90, 93, 96]) (len := 63) (off := 72) (tgt := 73) X (by decide +kernel) (by rw [c4]; decide) (by rw [c4]; decide) (by rw [c4]; decide) (by decide) ?_
          refine g_ldcS (idx := 194) (i := 16) X (by decide +kernel) rfl (by decide) rfl ?_
          subst E
          exact g_sreturn X (by decide +kernel) (Or.inl ⟨_, rfl⟩)
        · rcases it_E E with ⟨c5, E⟩ | ⟨c5, E⟩
          · refine g_tab_in (dflt := 99) (lo := 0) (hi := 11) (offs := #[63, 66, 69, 72, 75, 78, 81, 84, 87, 90, 93, 96]) (len := 63) (off := 75) (tgt := 76) X (by decide +kernel) (by rw [c5]; decide) (by rw [c5]; decide) (by rw [c5]; decide) (by decide) ?_
            refine g_ldcS (idx := 196) (i := 17) X (by decide +kernel) rfl (by decide) rfl ?_
            subst E
            exact g_sreturn X (by decide +kernel) (Or.inl ⟨_, rfl⟩)
          · rcases it_E E with ⟨c6, E⟩ | ⟨c6, E⟩
            · refine g_tab_in (dflt := 99) (lo := 0) (hi := 11) (offs := #[63, 66, 69, 72, 75, 78, 81, 84, 87, 90, 93, 96]) (len := 63) (off := 78) (tgt := 79) X (by decide +kernel) (by rw [c6]; decide) (by rw [c6]; decide) (by rw [c6]; decide) (by decide) ?_
              refine g_ldcS (idx := 198) (i := 18) X (by decide +kernel) rfl (by decide) rfl ?_
              subst E
              exact g_sreturn X (by decide +kernel) (Or.inl ⟨_, rfl⟩)
            · rcases it_E E with ⟨c7, E⟩ | ⟨c7, E⟩
              · refine g_tab_in (dflt := 99) (lo := 0) (hi := 11) (offs := #[63, 66, 69, 72, 75, 78, 81, 84, 87, 90, 93, 96]) (len := 63) (off := 81) (tgt := 82) X (by decide +kernel) (by rw [c7]; decide) (by rw [c7]; decide) (by rw [c7]; decide) (by decide) ?_
                refine g_ldcS (idx := 200) (i := 19) X (by decide +kernel) rfl (by decide) rfl ?_
                subst E
                exact g_sreturn X (by decide +kernel) (Or.inl ⟨_, rfl⟩)
              · rcases it_E E with ⟨c8, E⟩ | ⟨c8, E⟩
                · refine g_tab_in (dflt := 99) (lo := 0) (hi := 11) (offs := #[63, 66, 69, 72, 75, 78, 81, 84, 87, 90, 93, 96]) (len := 63) (off := 84) (tgt := 85) X (by decide +kernel) (by rw [c8]; decide) (by rw [c8]; decide) (by rw [c8]; decide) (by decide) ?_
                  refine g_ldcS (idx := 200) (i := 19) X (by decide +kernel) rfl (by decide) rfl ?_
                  subst E
                  exact g_sreturn X (by decide +kernel) (Or.inl ⟨_, rfl⟩)
                · rcases it_E E with ⟨c9, E⟩ | ⟨c9, E⟩
                  · refine g_tab_in (dflt := 99) (lo := 0) (hi := 11) (offs := #[63, 66, 69, 72, 75, 78, 81, 84, 87, 90, 93, 96]) (len := 63) (off := 87) (tgt := 88) X (by decide +kernel) (by rw [c9]; decide) (by rw [c9]; decide) (by rw [c9]; decide) (by decide) ?_
                    refine g_ldcS (idx := 202) (i := 20) X (by decide +kernel) rfl (by decide) rfl ?_
                    subst E
                    exact g_sreturn X (by decide +kernel) (Or.inl ⟨_, rfl⟩)
                  · rcases it_E E with ⟨c10, E⟩ | ⟨c10, E⟩
                    · refine g_tab_in (dflt := 99) (lo := 0) (hi := 11) (offs := #[63, 66, 69, 72, 75, 78, 81, 84, 87, 90, 93, 96]) (len := 63) (off := 90) (tgt := 91) X (by decide +kernel) (by rw [c10]; decide) (by rw [c10]; decide) (by rw [c10]; decide) (by decide) ?_
                      refine g_ldcS (idx := 204) (i := 21) X (by decide +kernel) rfl (by decide) rfl ?_
                      subst E
                      exact g_sreturn X (by decide +kernel) (Or.inl ⟨_, rfl⟩)
                    · rcases it_E E with ⟨c11, E⟩ | ⟨c11, E⟩
                      · refine g_tab_in (dflt := 99) (lo := 0) (hi := 11) (offs := #[63, 66, 69, 72, 75, 78, 81, 84, 87, 90, 93, 96]) (len := 63) (off := 93) (tgt := 94) X (by decide +kernel) (by rw [c11]; decide) (by rw [c11]; decide) (by rw [c11]; decide) (by decide) ?_
                        refine g_ldcS (idx := 204) (i := 21) X (by decide +kernel) rfl (by decide) rfl ?_
                        subst E
                        exact g_sreturn X (by decide +kernel) (Or.inl ⟨_, rfl⟩)
                      · rcases it_E E with ⟨c12, E⟩ | ⟨c12, E⟩
                        · refine g_tab_in (dflt := 99) (lo := 0) (hi := 11) (offs := #[63, 66, 69, 72, 75, 78, 81, 84, 87, 90, 93, 96]) (len := 63) (off := 96) (tgt := 97) X (by decide +kernel) (by rw [c12]; decide) (by rw [c12]; decide) (by rw [c12]; decide) (by decide) ?_
                          refine g_ldcS (idx := 206) (i := 22) X (by decide +kernel) rfl (by decide) rfl ?_
                          subst E
                          exact g_sreturn X (by decide +kernel) (Or.inl ⟨_, rfl⟩)
                        · have z13 : a0.toInt < 0 ∨ 11 < a0.toInt := by
                            have z := sw_out (x := a0) 0 11 (by decide) (by decide) (by
                              intro j hj
                              have hj2 : j = 0 ∨ j = 1 ∨ j = 2 ∨ j = 3 ∨ j = 4 ∨ j = 5 ∨ j = 6 ∨ j = 7 ∨ j = 8 ∨ j = 9 ∨ j = 10 ∨ j = 11 := by omega
                              rcases hj2 with rfl | rfl | rfl | rfl | rfl | rfl | rfl | rfl | rfl | rfl | rfl | rfl
                              · exact c1
                              · exact c2
                              · exact c3
                              · exact c4
                              · exact c5
                              · exact c6
                              · exact c7
                              · exact c8
                              · exact c9
                              · exact c10
                              · exact c11
                              · exact c12)
                            simpa using z
                          refine g_tab_out (dflt := 99) (lo := 0) (hi := 11) (offs := #[63, 66, 69, 72, 75, 78, 81, 84, 87, 90, 93, 96]) (len := 63) (tgt := 100) X (by decide +kernel) z13 (by decide) ?_
                          refine g_ldcS (idx := 208) (i := 23) X (by decide +kernel) rfl (by decide) rfl ?_
                          subst E
                          exact g_sreturn X (by decide +kernel) (Or.inl ⟨_, rfl⟩)
-- Reader.readLine
def f5_readLine_J131 (K : Ly) (n : Nat) (r55 : Int32 → Hp → Option Hp) (x0 : Nat) (x1 : Int32) (x2 : Nat) (x3 : Int32) (h : Hp) : Option Hp :=
    bp (f5_step K n x0 h) fun h37 =>
    lt (x3 + (1 : Int32)) fun x3_38 =>
    r55 x3_38 h37
def f5_readLine_J95 (K : Ly) (n : Nat) (r55 : Int32 → Hp → Option Hp) (x0 : Nat) (x1 : Int32) (x2 : Nat) (x3 : Int32) (x4 : Int32) (s0 : Int32) (s1 : Int32) (h : Hp) : Option Hp :=
    if s0 = s1 then (
    gd (inb x3 4) <|
    lt (sI h (x0 + 21) x3.toNatClampNeg (h.1 x0 10)) fun h27 =>
    bd (f5_canBe K n x0 x4 h27) fun y30 h29 =>
    if y30 = 0 then (
    bp (f5_mark K n x0 (2 : Int32) (h29.1 x0 9) h29) fun h33 =>
    f5_readLine_J131 K n (r55) x0 x1 x2 x3 h33)
    else (
    f5_readLine_J131 K n (r55) x0 x1 x2 x3 h29))
    else (
    bp (f5_refuse K n x0 h) fun h35 =>
    some h35)
def f5_readLine_J141 (K : Ly) (n : Nat)  (x0 : Nat) (x1 : Int32) (h : Hp) : Option Hp :=
    if (h.1 x0 8) = (3 : Int32) then (
    bp (f5_step K n x0 h) fun h19 =>
    if (h19.1 x0 12) = 0 then (
    bp (f5_tell K n x0 x1 h19) fun h22 =>
    some h22)
    else (
    some h19))
    else (
    bp (f5_refuse K n x0 h) fun h24 =>
    some h24)
def f5_readLine_L55 (K : Ly) (n : Nat) (x0 : Nat) (x1 : Int32) (x2 : Nat)   : Nat → Int32 → Hp → Option Hp
  | 0, _, _ => none
  | k + 1, x3, h =>
    if (slen x2) ≤ x3 then (
    f5_readLine_J141 K n x0 x1 h)
    else (
    if (4 : Int32) ≤ x3 then (
    f5_readLine_J141 K n x0 x1 h)
    else (
    gd (inb x3 (es_len.getD x2 0)) <|
    lt (sch x2 x3) fun x4_15 =>
    f5_readLine_J95 K n (f5_readLine_L55 K n x0 x1 x2  k) x0 x1 x2 x3 x4_15 (h.1 x0 8) (if x4_15 = (119 : Int32) then (1 : Int32) else (2 : Int32)) h))
def f5_readLine_J44 (K : Ly) (n : Nat)  (x0 : Nat) (x1 : Int32) (h : Hp) : Option Hp :=
    bp (f5_step K n x0 h) fun h11 =>
    f5_readLine_L55 K n x0 x1 (f5_shapeOf x1) n (0 : Int32) h11
def f5_readLine_J16 (K : Ly) (n : Nat)  (x0 : Nat) (s0 : Int32) (h : Hp) : Option Hp :=
    if s0 = (-1 : Int32) then (
    bp (f5_refuse K n x0 h) fun h6 =>
    some h6)
    else (
    if (f5_isOneTooMany x0 s0 h) = 0 then (
    f5_readLine_J44 K n x0 s0 h)
    else (
    bp (f5_mark K n x0 (3 : Int32) (h.1 x0 9) h) fun h9 =>
    f5_readLine_J44 K n x0 s0 h9))
def f5_readLine (K : Ly) (n : Nat) (o : Nat) (h : Hp) : Option Hp :=
    if (h.1 o 8) = (1 : Int32) then (
    bp (f5_verbHere K n o h) fun y3 =>
    f5_readLine_J16 K n o y3 h)
    else (
    f5_readLine_J16 K n o (-1 : Int32) h)
set_option maxHeartbeats 4000000 in
set_option maxRecDepth 20000 in
theorem w5_readLine_J131 {Γ : CT} {sp : Sp} {K : Ly} {sz n : Nat} {hf : Hp}  {r55 : Int32 → Hp → Option Hp}  (X : Ok Γ sp prog_8_method_3_code Rc5 5 none 7 none sz K hf) (hK : LyOk K) (x0 : Nat) (x1 : Int32) (x2 : Nat) (x3 : Int32) (h : Hp) (hr55 : ∀ (x3 : Int32) (h : Hp), r55 x3 h = some hf → Go Γ (0, 0) 55 [(0, .ref x0), (1, .int x1), (2, .ref (sp.1 x2)), (3, .int x3)] [] sz K h) (px0 : K x0 = some (.inl 5)) (px2 : x2 < 24) (E : f5_readLine_J131 K n r55 x0 x1 x2 x3 h = some hf) : Go Γ (0, 0) 131 [(0, .ref x0), (1, .int x1), (2, .ref (sp.1 x2)), (3, .int x3)] [] sz K h := by
  unfold f5_readLine_J131 at E
  refine g_aload_n (n := 0) X (by decide +kernel) 0 rfl ?_
  obtain ⟨h37, e36, E⟩ := bp_E E
  refine g_callV0 (st := []) X [] (by decide +kernel) ml5_77 px0 rfl rfl (by decide) (Nat.le_of_ble_eq_true rfl) (c5_step hK x0 h px0 e36) ?_
  obtain ⟨x3_38, ex3_38, E⟩ := lt_E E
  refine s_iinc (i := 3) (n := 1) (y := x3_38) X (by decide +kernel) 3 rfl (by decide) ex3_38 (ls_next (by decide) (Or.inr rfl) (ls_next (by decide) (Or.inr rfl) (ls_next (by decide) (Or.inr rfl) (ls_here ls_end)))) ?_
  refine g_goto (off := -83) (tgt := 55) X (by decide +kernel) (by decide) ?_
  exact hr55 x3_38 h37  E
set_option maxHeartbeats 4000000 in
set_option maxRecDepth 20000 in
theorem w5_readLine_J95 {Γ : CT} {sp : Sp} {K : Ly} {sz n : Nat} {hf : Hp}  {r55 : Int32 → Hp → Option Hp}  (X : Ok Γ sp prog_8_method_3_code Rc5 5 none 7 none sz K hf) (hK : LyOk K) (x0 : Nat) (x1 : Int32) (x2 : Nat) (x3 : Int32) (x4 : Int32) (s0 : Int32) (s1 : Int32) (h : Hp) (hr55 : ∀ (x3 : Int32) (h : Hp), r55 x3 h = some hf → Go Γ (0, 0) 55 [(0, .ref x0), (1, .int x1), (2, .ref (sp.1 x2)), (3, .int x3)] [] sz K h) (px0 : K x0 = some (.inl 5)) (px2 : x2 < 24) (E : f5_readLine_J95 K n r55 x0 x1 x2 x3 x4 s0 s1 h = some hf) : Go Γ (0, 0) 95 [(0, .ref x0), (1, .int x1), (2, .ref (sp.1 x2)), (3, .int x3), (4, .int x4)] [.int s1, .int s0] sz K h := by
  unfold f5_readLine_J95 at E
  rcases it_E E with ⟨c25, E⟩ | ⟨c25, E⟩
  · refine g_icmp_eq_t (off := 8) (tgt := 103) X (by decide +kernel) (by decide) c25 ?_
    refine g_aload_n (n := 0) X (by decide +kernel) 0 rfl ?_
    refine g_getS X (by decide +kernel) fl5_32 px0 ?_
    refine g_iload_n (n := 3) X (by decide +kernel) 3 rfl ?_
    refine g_aload_n (n := 0) X (by decide +kernel) 0 rfl ?_
    refine g_getI X (by decide +kernel) fl5_56 px0 ?_
    obtain ⟨c26, E⟩ := gd_E E
    obtain ⟨h27, eh27, E⟩ := lt_E E
    refine g_iast X (by decide +kernel) (ly hK px0 fl5_32 rfl) c26 eh27 ?_
    refine g_aload_n (n := 0) X (by decide +kernel) 0 rfl ?_
    refine g_iload (n := 4) X (by decide +kernel) 4 rfl ?_
    obtain ⟨y30, h29, e28, E⟩ := bd_E E
    refine g_callV1 (st := []) X [.int x4] (by decide +kernel) ml5_113 px0 rfl rfl (by decide) (Nat.le_of_ble_eq_true rfl) (c5_canBe hK x0 x4 h27 px0 e28) ?_
    rcases it_E E with ⟨c31, E⟩ | ⟨c31, E⟩
    · refine g_if_ne_f (off := 12) (tgt := 131) X (by decide +kernel) (by decide) (fun z => z c31) ?_
      refine g_aload_n (n := 0) X (by decide +kernel) 0 rfl ?_
      refine g_iconst (n := 2) (x := (2 : Int32)) X (by decide +kernel) (by decide) ?_
      refine g_aload_n (n := 0) X (by decide +kernel) 0 rfl ?_
      refine g_getI X (by decide +kernel) fl5_53 px0 ?_
      obtain ⟨h33, e32, E⟩ := bp_E E
      refine g_callV0 (st := []) X [.int (2 : Int32), .int (h29.1 x0 9)] (by decide +kernel) ml5_86 px0 rfl rfl (by decide) (Nat.le_of_ble_eq_true rfl) (c5_mark hK x0 (2 : Int32) (h29.1 x0 9) h29 px0 e32) ?_
      refine g_sub [0, 1, 2, 3] rfl ?_
      exact w5_readLine_J131 X hK x0 x1 x2 x3 h33 hr55 px0 px2 E
    · refine g_if_ne_t (off := 12) (tgt := 131) X (by decide +kernel) (by decide) c31 ?_
      refine g_sub [0, 1, 2, 3] rfl ?_
      exact w5_readLine_J131 X hK x0 x1 x2 x3 h29 hr55 px0 px2 E
  · refine g_icmp_eq_f (off := 8) (tgt := 103) X (by decide +kernel) (by decide) c25 ?_
    refine g_aload_n (n := 0) X (by decide +kernel) 0 rfl ?_
    obtain ⟨h35, e34, E⟩ := bp_E E
    refine g_callV0 (st := []) X [] (by decide +kernel) ml5_94 px0 rfl rfl (by decide) (Nat.le_of_ble_eq_true rfl) (c5_refuse hK x0 h px0 e34) ?_
    obtain rfl := Option.some.inj E
    exact g_return X (by decide +kernel)
set_option maxHeartbeats 4000000 in
set_option maxRecDepth 20000 in
theorem w5_readLine_J141 {Γ : CT} {sp : Sp} {K : Ly} {sz n : Nat} {hf : Hp}   (X : Ok Γ sp prog_8_method_3_code Rc5 5 none 7 none sz K hf) (hK : LyOk K) (x0 : Nat) (x1 : Int32) (h : Hp)  (px0 : K x0 = some (.inl 5)) (E : f5_readLine_J141 K n x0 x1 h = some hf) : Go Γ (0, 0) 141 [(0, .ref x0), (1, .int x1)] [] sz K h := by
  unfold f5_readLine_J141 at E
  refine g_aload_n (n := 0) X (by decide +kernel) 0 rfl ?_
  refine g_getI X (by decide +kernel) fl5_50 px0 ?_
  refine g_iconst (n := 3) (x := (3 : Int32)) X (by decide +kernel) (by decide) ?_
  rcases it_E E with ⟨c17, E⟩ | ⟨c17, E⟩
  · refine g_icmp_eq_t (off := 8) (tgt := 154) X (by decide +kernel) (by decide) c17 ?_
    refine g_aload_n (n := 0) X (by decide +kernel) 0 rfl ?_
    obtain ⟨h19, e18, E⟩ := bp_E E
    refine g_callV0 (st := []) X [] (by decide +kernel) ml5_77 px0 rfl rfl (by decide) (Nat.le_of_ble_eq_true rfl) (c5_step hK x0 h px0 e18) ?_
    refine g_aload_n (n := 0) X (by decide +kernel) 0 rfl ?_
    refine g_getI X (by decide +kernel) fl5_62 px0 ?_
    rcases it_E E with ⟨c20, E⟩ | ⟨c20, E⟩
    · refine g_if_ne_f (off := 8) (tgt := 170) X (by decide +kernel) (by decide) (fun z => z c20) ?_
      refine g_aload_n (n := 0) X (by decide +kernel) 0 rfl ?_
      refine g_iload_n (n := 1) X (by decide +kernel) 1 rfl ?_
      obtain ⟨h22, e21, E⟩ := bp_E E
      refine g_callV0 (st := []) X [.int x1] (by decide +kernel) ml5_117 px0 rfl rfl (by decide) (Nat.le_of_ble_eq_true rfl) (c5_tell hK x0 x1 h19 px0 e21) ?_
      obtain rfl := Option.some.inj E
      exact g_return X (by decide +kernel)
    · refine g_if_ne_t (off := 8) (tgt := 170) X (by decide +kernel) (by decide) c20 ?_
      obtain rfl := Option.some.inj E
      exact g_return X (by decide +kernel)
  · refine g_icmp_eq_f (off := 8) (tgt := 154) X (by decide +kernel) (by decide) c17 ?_
    refine g_aload_n (n := 0) X (by decide +kernel) 0 rfl ?_
    obtain ⟨h24, e23, E⟩ := bp_E E
    refine g_callV0 (st := []) X [] (by decide +kernel) ml5_94 px0 rfl rfl (by decide) (Nat.le_of_ble_eq_true rfl) (c5_refuse hK x0 h px0 e23) ?_
    obtain rfl := Option.some.inj E
    exact g_return X (by decide +kernel)
set_option maxHeartbeats 4000000 in
set_option maxRecDepth 20000 in
theorem w5_readLine_L55 {Γ : CT} {sp : Sp} {K : Ly} {sz n : Nat} {hf : Hp}  (X : Ok Γ sp prog_8_method_3_code Rc5 5 none 7 none sz K hf) (hK : LyOk K) (x0 : Nat) (x1 : Int32) (x2 : Nat)  (px0 : K x0 = some (.inl 5)) (px2 : x2 < 24)  : ∀ (k : Nat) (x3 : Int32) (h : Hp), f5_readLine_L55 K n x0 x1 x2  k x3 h = some hf → Go Γ (0, 0) 55 [(0, .ref x0), (1, .int x1), (2, .ref (sp.1 x2)), (3, .int x3)] [] sz K h := by
  intro k
  induction k with
  | zero => intro x3 h E; cases E
  | succ k ih =>
    intro x3 h E
    unfold f5_readLine_L55 at E
    refine g_iload_n (n := 3) X (by decide +kernel) 3 rfl ?_
    refine g_aload_n (n := 2) X (by decide +kernel) 2 rfl ?_
    refine g_callT (st := [.int x3]) X [] (by decide +kernel) ml5_105 px2 rfl (by decide) (Nat.le_of_ble_eq_true rfl) (cs_length h x2 px2) ?_
    rcases it_E E with ⟨c12, E⟩ | ⟨c12, E⟩
    · refine g_icmp_ge_t (off := 81) (tgt := 141) X (by decide +kernel) (by decide) c12 ?_
      refine g_sub [0, 1] rfl ?_
      exact w5_readLine_J141 X hK x0 x1 h px0 E
    · refine g_icmp_ge_f (off := 81) (tgt := 141) X (by decide +kernel) (by decide) c12 ?_
      refine g_iload_n (n := 3) X (by decide +kernel) 3 rfl ?_
      refine g_aload_n (n := 0) X (by decide +kernel) 0 rfl ?_
      refine g_getS X (by decide +kernel) fl5_32 px0 ?_
      refine g_alen (x := (4 : Int32)) X (by decide +kernel) (ly hK px0 fl5_32 rfl) ⟨_, rfl⟩ (by decide) ?_
      rcases it_E E with ⟨c13, E⟩ | ⟨c13, E⟩
      · refine g_icmp_ge_t (off := 72) (tgt := 141) X (by decide +kernel) (by decide) c13 ?_
        refine g_sub [0, 1] rfl ?_
        exact w5_readLine_J141 X hK x0 x1 h px0 E
      · refine g_icmp_ge_f (off := 72) (tgt := 141) X (by decide +kernel) (by decide) c13 ?_
        refine g_aload_n (n := 2) X (by decide +kernel) 2 rfl ?_
        refine g_iload_n (n := 3) X (by decide +kernel) 3 rfl ?_
        obtain ⟨c14, E⟩ := gd_E E
        refine g_callT (st := []) X [.int x3] (by decide +kernel) ml5_109 px2 rfl (by decide) (Nat.le_of_ble_eq_true rfl) (cs_charAt h x2 px2 x3 c14) ?_
        obtain ⟨x4_15, ex4_15, E⟩ := lt_E E
        refine s_istore (i := 4) X (by decide +kernel) (by decide) ex4_15 (ls_next (by decide) (Or.inr rfl) (ls_next (by decide) (Or.inr rfl) (ls_next (by decide) (Or.inr rfl) (ls_next (by decide) (Or.inr rfl) (ls_ins ls_end))))) ?_
        refine g_aload_n (n := 0) X (by decide +kernel) 0 rfl ?_
        refine g_getI X (by decide +kernel) fl5_50 px0 ?_
        refine g_iload (n := 4) X (by decide +kernel) 4 rfl ?_
        refine g_bipush (n := 119) (x := (119 : Int32)) X (by decide +kernel) (by decide) ?_
        have hJ : Go Γ (0, 0) 95 [(0, .ref x0), (1, .int x1), (2, .ref (sp.1 x2)), (3, .int x3), (4, .int x4_15)] [.int (if x4_15 = (119 : Int32) then (1 : Int32) else (2 : Int32)), .int (h.1 x0 8)] sz K h := by
          exact w5_readLine_J95 X hK x0 x1 x2 x3 x4_15 (h.1 x0 8) (if x4_15 = (119 : Int32) then (1 : Int32) else (2 : Int32)) h ih px0 px2 E
        clear E
        by_cases c16 : x4_15 = (119 : Int32)
        · rw [if_pos c16] at hJ
          refine g_icmp_ne_f (off := 7) (tgt := 94) X (by decide +kernel) (by decide) (fun z => z c16) ?_
          refine g_iconst (n := 1) (x := (1 : Int32)) X (by decide +kernel) (by decide) ?_
          refine g_goto (off := 4) (tgt := 95) X (by decide +kernel) (by decide) ?_
          exact hJ
        · rw [if_neg c16] at hJ
          refine g_icmp_ne_t (off := 7) (tgt := 94) X (by decide +kernel) (by decide) c16 ?_
          refine g_iconst (n := 2) (x := (2 : Int32)) X (by decide +kernel) (by decide) ?_
          exact hJ
set_option maxHeartbeats 4000000 in
set_option maxRecDepth 20000 in
theorem w5_readLine_J44 {Γ : CT} {sp : Sp} {K : Ly} {sz n : Nat} {hf : Hp}   (X : Ok Γ sp prog_8_method_3_code Rc5 5 none 7 none sz K hf) (hK : LyOk K) (x0 : Nat) (x1 : Int32) (h : Hp)  (px0 : K x0 = some (.inl 5)) (E : f5_readLine_J44 K n x0 x1 h = some hf) : Go Γ (0, 0) 44 [(0, .ref x0), (1, .int x1)] [] sz K h := by
  unfold f5_readLine_J44 at E
  refine g_iload_n (n := 1) X (by decide +kernel) 1 rfl ?_
  refine g_callS1 (st := []) X [.int x1] (by decide +kernel) ml5_101 (by decide) (Nat.le_of_ble_eq_true rfl) (c5_shapeOf hK x1 h ) ?_
  refine s_astore_n (n := 2) (i := 2) X (by decide +kernel) rfl (by decide) rfl (ls_next (by decide) (Or.inr rfl) (ls_next (by decide) (Or.inr rfl) (ls_ins ls_end))) ?_
  refine g_aload_n (n := 0) X (by decide +kernel) 0 rfl ?_
  obtain ⟨h11, e10, E⟩ := bp_E E
  refine g_callV0 (st := []) X [] (by decide +kernel) ml5_77 px0 rfl rfl (by decide) (Nat.le_of_ble_eq_true rfl) (c5_step hK x0 h px0 e10) ?_
  refine g_iconst (n := 0) (x := (0 : Int32)) X (by decide +kernel) (by decide) ?_
  refine s_istore_n (n := 3) (i := 3) X (by decide +kernel) rfl (by decide) rfl (ls_next (by decide) (Or.inr rfl) (ls_next (by decide) (Or.inr rfl) (ls_next (by decide) (Or.inr rfl) (ls_ins ls_end)))) ?_
  exact w5_readLine_L55 X hK x0 x1 (f5_shapeOf x1) px0 (f5_shapeOf_lt x1) n (0 : Int32) h11 E
set_option maxHeartbeats 4000000 in
set_option maxRecDepth 20000 in
theorem w5_readLine_J16 {Γ : CT} {sp : Sp} {K : Ly} {sz n : Nat} {hf : Hp}   (X : Ok Γ sp prog_8_method_3_code Rc5 5 none 7 none sz K hf) (hK : LyOk K) (x0 : Nat) (s0 : Int32) (h : Hp)  (px0 : K x0 = some (.inl 5)) (E : f5_readLine_J16 K n x0 s0 h = some hf) : Go Γ (0, 0) 16 [(0, .ref x0)] [.int s0] sz K h := by
  unfold f5_readLine_J16 at E
  refine s_istore_n (n := 1) (i := 1) X (by decide +kernel) rfl (by decide) rfl (ls_next (by decide) (Or.inr rfl) (ls_ins ls_end)) ?_
  refine g_iload_n (n := 1) X (by decide +kernel) 1 rfl ?_
  refine g_iconst (n := -1) (x := (-1 : Int32)) X (by decide +kernel) (by decide) ?_
  rcases it_E E with ⟨c4, E⟩ | ⟨c4, E⟩
  · refine g_icmp_ne_f (off := 8) (tgt := 27) X (by decide +kernel) (by decide) (fun z => z c4) ?_
    refine g_aload_n (n := 0) X (by decide +kernel) 0 rfl ?_
    obtain ⟨h6, e5, E⟩ := bp_E E
    refine g_callV0 (st := []) X [] (by decide +kernel) ml5_94 px0 rfl rfl (by decide) (Nat.le_of_ble_eq_true rfl) (c5_refuse hK x0 h px0 e5) ?_
    obtain rfl := Option.some.inj E
    exact g_return X (by decide +kernel)
  · refine g_icmp_ne_t (off := 8) (tgt := 27) X (by decide +kernel) (by decide) c4 ?_
    refine g_aload_n (n := 0) X (by decide +kernel) 0 rfl ?_
    refine g_iload_n (n := 1) X (by decide +kernel) 1 rfl ?_
    refine g_callV1 (st := []) X [.int s0] (by decide +kernel) ml5_97 px0 rfl rfl (by decide) (Nat.le_of_ble_eq_true rfl) (c5_isOneTooMany hK x0 s0 h px0) ?_
    rcases it_E E with ⟨c7, E⟩ | ⟨c7, E⟩
    · refine g_if_eq_t (off := 12) (tgt := 44) X (by decide +kernel) (by decide) c7 ?_
      exact w5_readLine_J44 X hK x0 s0 h px0 E
    · refine g_if_eq_f (off := 12) (tgt := 44) X (by decide +kernel) (by decide) c7 ?_
      refine g_aload_n (n := 0) X (by decide +kernel) 0 rfl ?_
      refine g_iconst (n := 3) (x := (3 : Int32)) X (by decide +kernel) (by decide) ?_
      refine g_aload_n (n := 0) X (by decide +kernel) 0 rfl ?_
      refine g_getI X (by decide +kernel) fl5_53 px0 ?_
      obtain ⟨h9, e8, E⟩ := bp_E E
      refine g_callV0 (st := []) X [.int (3 : Int32), .int (h.1 x0 9)] (by decide +kernel) ml5_86 px0 rfl rfl (by decide) (Nat.le_of_ble_eq_true rfl) (c5_mark hK x0 (3 : Int32) (h.1 x0 9) h px0 e8) ?_
      exact w5_readLine_J44 X hK x0 s0 h9 px0 E
set_option maxHeartbeats 4000000 in
set_option maxRecDepth 20000 in
theorem c5_readLine {sp : Sp} {K : Ly} {sz n : Nat} (hK : LyOk K) (o : Nat) (h : Hp) (ho : K o = some (.inl 5)) {hf : Hp} (E : f5_readLine K n o h = some hf) : Con sp y5_readLine prog_8_method_3_code 5 none 7 0 0 [.ref o] sz K h none sz K hf := by
  refine Con.of (by decide) (Nat.le_of_ble_eq_true rfl) (fun Γ X _ => ?_)
  show Go Γ (0, 0) 0 [(0, .ref o)] [] sz K h
  unfold f5_readLine at E
  refine g_aload_n (n := 0) X (by decide +kernel) 0 rfl ?_
  refine g_getI X (by decide +kernel) fl5_50 ho ?_
  refine g_iconst (n := 1) (x := (1 : Int32)) X (by decide +kernel) (by decide) ?_
  rcases it_E E with ⟨c1, E⟩ | ⟨c1, E⟩
  · refine g_icmp_ne_f (off := 10) (tgt := 15) X (by decide +kernel) (by decide) (fun z => z c1) ?_
    refine g_aload_n (n := 0) X (by decide +kernel) 0 rfl ?_
    obtain ⟨y3, e2, E⟩ := bp_E E
    refine g_callV1 (st := []) X [] (by decide +kernel) ml5_90 ho rfl rfl (by decide) (Nat.le_of_ble_eq_true rfl) (c5_verbHere hK o h ho e2) ?_
    refine g_goto (off := 4) (tgt := 16) X (by decide +kernel) (by decide) ?_
    exact w5_readLine_J16 X hK o y3 h ho E
  · refine g_icmp_ne_t (off := 10) (tgt := 15) X (by decide +kernel) (by decide) c1 ?_
    refine g_iconst (n := -1) (x := (-1 : Int32)) X (by decide +kernel) (by decide) ?_
    exact w5_readLine_J16 X hK o (-1 : Int32) h ho E
-- Reader.read
def f5_read_J99 (K : Ly) (n : Nat)  (x0 : Nat) (h : Hp) : Option Hp :=
    if (h.1 x0 6) = 0 then (
    if (h.1 x0 11) < (h.1 (x0 + 1) 0) then (
    some h)
    else (
    bp (f5_mark K n x0 (4 : Int32) (h.1 x0 5) h) fun h23 =>
    some h23))
    else (
    some h)
def f5_read_L65 (K : Ly) (n : Nat) (x0 : Nat)   : Nat → Int32 → Hp → Option Hp
  | 0, _, _ => none
  | k + 1, x4, h =>
    if (h.1 x0 5) ≤ x4 then (
    f5_read_J99 K n x0 h)
    else (
    if (h.1 x0 8) = 0 then (
    f5_read_J99 K n x0 h)
    else (
    if (h.1 x0 12) = (1 : Int32) then (
    f5_read_J99 K n x0 h)
    else (
    bp (f5_readLine K n x0 h) fun h18 =>
    lt (x4 + (1 : Int32)) fun x4_19 =>
    f5_read_L65 K n x0  k x4_19 h18)))
def f5_read (K : Ly) (n : Nat) (o : Nat) (a1 a1n : Nat) (a2 : Int32) (a3 : Int32) (h : Hp) : Option Hp :=
    lt (sR h o 4 (some a1)) fun h1 =>
    lt (sI h1 o 5 a2) fun h2 =>
    lt (sI h2 o 6 a3) fun h3 =>
    lt (sI h3 o 7 (0 : Int32)) fun h4 =>
    lt (sI h4 o 12 (0 : Int32)) fun h5 =>
    lt (sI h5 o 13 (-1 : Int32)) fun h6 =>
    lt (sI h6 o 11 (0 : Int32)) fun h7 =>
    bp (f2_clear K n (o + 1) h7) fun h9 =>
    lt (sI h9 (o + 14) 0 (0 : Int32)) fun h10 =>
    lt (sI h10 (o + 18) 0 (0 : Int32)) fun h11 =>
    bp (f5_step K n o h11) fun h13 =>
    f5_read_L65 K n o n (0 : Int32) h13
set_option maxHeartbeats 4000000 in
set_option maxRecDepth 20000 in
theorem w5_read_J99 {Γ : CT} {sp : Sp} {K : Ly} {sz n : Nat} {hf : Hp}   (X : Ok Γ sp prog_8_method_2_code Rc5 5 none 8 none sz K hf) (hK : LyOk K) (x0 : Nat) (h : Hp)  (px0 : K x0 = some (.inl 5)) (E : f5_read_J99 K n x0 h = some hf) : Go Γ (0, 0) 99 [(0, .ref x0)] [] sz K h := by
  unfold f5_read_J99 at E
  refine g_aload_n (n := 0) X (by decide +kernel) 0 rfl ?_
  refine g_getI X (by decide +kernel) fl5_44 px0 ?_
  rcases it_E E with ⟨c20, E⟩ | ⟨c20, E⟩
  · refine g_if_ne_f (off := 26) (tgt := 129) X (by decide +kernel) (by decide) (fun z => z c20) ?_
    refine g_aload_n (n := 0) X (by decide +kernel) 0 rfl ?_
    refine g_getI X (by decide +kernel) fl5_59 px0 ?_
    refine g_aload_n (n := 0) X (by decide +kernel) 0 rfl ?_
    refine g_getS X (by decide +kernel) fl5_12 px0 ?_
    refine g_getI X (by decide +kernel) fl5_83 (ly hK px0 fl5_12 rfl) ?_
    rcases it_E E with ⟨c21, E⟩ | ⟨c21, E⟩
    · refine g_icmp_lt_t (off := 12) (tgt := 129) X (by decide +kernel) (by decide) c21 ?_
      obtain rfl := Option.some.inj E
      exact g_return X (by decide +kernel)
    · refine g_icmp_lt_f (off := 12) (tgt := 129) X (by decide +kernel) (by decide) c21 ?_
      refine g_aload_n (n := 0) X (by decide +kernel) 0 rfl ?_
      refine g_iconst (n := 4) (x := (4 : Int32)) X (by decide +kernel) (by decide) ?_
      refine g_aload_n (n := 0) X (by decide +kernel) 0 rfl ?_
      refine g_getI X (by decide +kernel) fl5_40 px0 ?_
      obtain ⟨h23, e22, E⟩ := bp_E E
      refine g_callV0 (st := []) X [.int (4 : Int32), .int (h.1 x0 5)] (by decide +kernel) ml5_86 px0 rfl rfl (by decide) (Nat.le_of_ble_eq_true rfl) (c5_mark hK x0 (4 : Int32) (h.1 x0 5) h px0 e22) ?_
      obtain rfl := Option.some.inj E
      exact g_return X (by decide +kernel)
  · refine g_if_ne_t (off := 26) (tgt := 129) X (by decide +kernel) (by decide) c20 ?_
    obtain rfl := Option.some.inj E
    exact g_return X (by decide +kernel)
set_option maxHeartbeats 4000000 in
set_option maxRecDepth 20000 in
theorem w5_read_L65 {Γ : CT} {sp : Sp} {K : Ly} {sz n : Nat} {hf : Hp}  (X : Ok Γ sp prog_8_method_2_code Rc5 5 none 8 none sz K hf) (hK : LyOk K) (x0 : Nat)  (px0 : K x0 = some (.inl 5))  : ∀ (k : Nat) (x4 : Int32) (h : Hp), f5_read_L65 K n x0  k x4 h = some hf → Go Γ (0, 0) 65 [(0, .ref x0), (4, .int x4)] [] sz K h := by
  intro k
  induction k with
  | zero => intro x4 h E; cases E
  | succ k ih =>
    intro x4 h E
    unfold f5_read_L65 at E
    refine g_iload (n := 4) X (by decide +kernel) 1 rfl ?_
    refine g_aload_n (n := 0) X (by decide +kernel) 0 rfl ?_
    refine g_getI X (by decide +kernel) fl5_40 px0 ?_
    rcases it_E E with ⟨c14, E⟩ | ⟨c14, E⟩
    · refine g_icmp_ge_t (off := 28) (tgt := 99) X (by decide +kernel) (by decide) c14 ?_
      refine g_sub [0] rfl ?_
      exact w5_read_J99 X hK x0 h px0 E
    · refine g_icmp_ge_f (off := 28) (tgt := 99) X (by decide +kernel) (by decide) c14 ?_
      refine g_aload_n (n := 0) X (by decide +kernel) 0 rfl ?_
      refine g_getI X (by decide +kernel) fl5_50 px0 ?_
      rcases it_E E with ⟨c15, E⟩ | ⟨c15, E⟩
      · refine g_if_eq_t (off := 21) (tgt := 99) X (by decide +kernel) (by decide) c15 ?_
        refine g_sub [0] rfl ?_
        exact w5_read_J99 X hK x0 h px0 E
      · refine g_if_eq_f (off := 21) (tgt := 99) X (by decide +kernel) (by decide) c15 ?_
        refine g_aload_n (n := 0) X (by decide +kernel) 0 rfl ?_
        refine g_getI X (by decide +kernel) fl5_62 px0 ?_
        refine g_iconst (n := 1) (x := (1 : Int32)) X (by decide +kernel) (by decide) ?_
        rcases it_E E with ⟨c16, E⟩ | ⟨c16, E⟩
        · refine g_icmp_eq_t (off := 13) (tgt := 99) X (by decide +kernel) (by decide) c16 ?_
          refine g_sub [0] rfl ?_
          exact w5_read_J99 X hK x0 h px0 E
        · refine g_icmp_eq_f (off := 13) (tgt := 99) X (by decide +kernel) (by decide) c16 ?_
          refine g_aload_n (n := 0) X (by decide +kernel) 0 rfl ?_
          obtain ⟨h18, e17, E⟩ := bp_E E
          refine g_callV0 (st := []) X [] (by decide +kernel) ml5_80 px0 rfl rfl (by decide) (Nat.le_of_ble_eq_true rfl) (c5_readLine hK x0 h px0 e17) ?_
          obtain ⟨x4_19, ex4_19, E⟩ := lt_E E
          refine s_iinc (i := 4) (n := 1) (y := x4_19) X (by decide +kernel) 1 rfl (by decide) ex4_19 (ls_next (by decide) (Or.inr rfl) (ls_here ls_end)) ?_
          refine g_goto (off := -31) (tgt := 65) X (by decide +kernel) (by decide) ?_
          exact ih x4_19 h18  E
set_option maxHeartbeats 4000000 in
set_option maxRecDepth 20000 in
theorem c5_read {sp : Sp} {K : Ly} {sz n : Nat} (hK : LyOk K) (o : Nat) (a1 a1n : Nat) (a2 : Int32) (a3 : Int32) (h : Hp) (ho : K o = some (.inl 5)) (ha1 : K a1 = some (.inr (1, a1n))) {hf : Hp} (E : f5_read K n o a1 a1n a2 a3 h = some hf) : Con sp y5_read prog_8_method_2_code 5 none 8 0 0 [.ref o, .ref a1, .int a2, .int a3] sz K h none sz K hf := by
  refine Con.of (by decide) (Nat.le_of_ble_eq_true rfl) (fun Γ X _ => ?_)
  show Go Γ (0, 0) 0 [(0, .ref o), (1, .ref a1), (2, .int a2), (3, .int a3)] [] sz K h
  unfold f5_read at E
  refine g_aload_n (n := 0) X (by decide +kernel) 0 rfl ?_
  refine g_aload_n (n := 1) X (by decide +kernel) 1 rfl ?_
  obtain ⟨h1, eh1, E⟩ := lt_E E
  refine g_putR X (by decide +kernel) fp5_36 rfl rfl ho eh1 ?_
  refine g_aload_n (n := 0) X (by decide +kernel) 0 rfl ?_
  refine g_iload_n (n := 2) X (by decide +kernel) 2 rfl ?_
  obtain ⟨h2, eh2, E⟩ := lt_E E
  refine g_putI X (by decide +kernel) fp5_40 ho eh2 ?_
  refine g_aload_n (n := 0) X (by decide +kernel) 0 rfl ?_
  refine g_iload_n (n := 3) X (by decide +kernel) 3 rfl ?_
  obtain ⟨h3, eh3, E⟩ := lt_E E
  refine g_putI X (by decide +kernel) fp5_44 ho eh3 ?_
  refine g_aload_n (n := 0) X (by decide +kernel) 0 rfl ?_
  refine g_iconst (n := 0) (x := (0 : Int32)) X (by decide +kernel) (by decide) ?_
  obtain ⟨h4, eh4, E⟩ := lt_E E
  refine g_putI X (by decide +kernel) fp5_47 ho eh4 ?_
  refine g_aload_n (n := 0) X (by decide +kernel) 0 rfl ?_
  refine g_iconst (n := 0) (x := (0 : Int32)) X (by decide +kernel) (by decide) ?_
  obtain ⟨h5, eh5, E⟩ := lt_E E
  refine g_putI X (by decide +kernel) fp5_62 ho eh5 ?_
  refine g_aload_n (n := 0) X (by decide +kernel) 0 rfl ?_
  refine g_iconst (n := -1) (x := (-1 : Int32)) X (by decide +kernel) (by decide) ?_
  obtain ⟨h6, eh6, E⟩ := lt_E E
  refine g_putI X (by decide +kernel) fp5_65 ho eh6 ?_
  refine g_aload_n (n := 0) X (by decide +kernel) 0 rfl ?_
  refine g_iconst (n := 0) (x := (0 : Int32)) X (by decide +kernel) (by decide) ?_
  obtain ⟨h7, eh7, E⟩ := lt_E E
  refine g_putI X (by decide +kernel) fp5_59 ho eh7 ?_
  refine g_aload_n (n := 0) X (by decide +kernel) 0 rfl ?_
  refine g_getS X (by decide +kernel) fl5_12 ho ?_
  obtain ⟨h9, e8, E⟩ := bp_E E
  refine g_callV0 (st := []) X [] (by decide +kernel) ml5_68 (ly hK ho fl5_12 rfl) rfl rfl (by decide) (Nat.le_of_ble_eq_true rfl) (c2_clear hK (o + 1) h7 (ly hK ho fl5_12 rfl) e8) ?_
  refine g_aload_n (n := 0) X (by decide +kernel) 0 rfl ?_
  refine g_getS X (by decide +kernel) fl5_21 ho ?_
  refine g_iconst (n := 0) (x := (0 : Int32)) X (by decide +kernel) (by decide) ?_
  obtain ⟨h10, eh10, E⟩ := lt_E E
  refine g_putI X (by decide +kernel) fp5_71 (ly hK ho fl5_21 rfl) eh10 ?_
  refine g_aload_n (n := 0) X (by decide +kernel) 0 rfl ?_
  refine g_getS X (by decide +kernel) fl5_28 ho ?_
  refine g_iconst (n := 0) (x := (0 : Int32)) X (by decide +kernel) (by decide) ?_
  obtain ⟨h11, eh11, E⟩ := lt_E E
  refine g_putI X (by decide +kernel) fp5_74 (ly hK ho fl5_28 rfl) eh11 ?_
  refine g_aload_n (n := 0) X (by decide +kernel) 0 rfl ?_
  obtain ⟨h13, e12, E⟩ := bp_E E
  refine g_callV0 (st := []) X [] (by decide +kernel) ml5_77 ho rfl rfl (by decide) (Nat.le_of_ble_eq_true rfl) (c5_step hK o h11 ho e12) ?_
  refine g_iconst (n := 0) (x := (0 : Int32)) X (by decide +kernel) (by decide) ?_
  refine s_istore (i := 4) X (by decide +kernel) (by decide) rfl (ls_next (by decide) (Or.inr rfl) (ls_next (by decide) (Or.inr rfl) (ls_next (by decide) (Or.inr rfl) (ls_next (by decide) (Or.inr rfl) (ls_ins ls_end))))) ?_
  refine g_sub [0, 4] rfl ?_
  exact w5_read_L65 X hK o ho n (0 : Int32) h13 E
-- AskedNames.text
def f0_text_J170 (K : Ly) (n : Nat)  (x0 : Nat) (x1 : Int32) (s0 : Int32) (h : Hp) : Option (Int32 × Hp) :=
    bp (f1_put K n (x0 + 1) x1 s0 (x0 + 187) h) fun h22 =>
    some (s0, h22)
def f0_text_J103 (K : Ly) (n : Nat)  (x0 : Nat) (x1 : Int32) (x2 : Int32) (x3 : Int32) (x4 : Int32) (x5 : Int32) (h : Hp) : Option (Int32 × Hp) :=
    bp (f5_read K n (x0 + 187) ((x0 + 1) + 1) 600 x3 x1 h) fun h16 =>
    lt (sI h16 (x0 + 1) 2 (h16.1 (x0 + 187) 12)) fun h17 =>
    lt (sI h17 (x0 + 1) 3 (h17.1 (x0 + 187) 13)) fun h18 =>
    if (h18.1 (x0 + 187) 12) = 0 then (
    f0_text_J170 K n x0 x1 (if x5 = 0 then x2 else x4) h18)
    else (
    some ((-1 : Int32), h18))
def f0_text_J88 (K : Ly) (n : Nat)  (x0 : Nat) (x1 : Int32) (x2 : Int32) (x3 : Int32) (x4 : Int32) (x5 : Int32) (s0 : Int32) (h : Hp) : Option (Int32 × Hp) :=
    if x5 = 0 then (
    if s0 = 0 then (
    some ((-2 : Int32), h))
    else (
    f0_text_J103 K n x0 x1 x2 x3 x4 x5 h))
    else (
    f0_text_J103 K n x0 x1 x2 x3 x4 x5 h)
def f0_text_J71 (K : Ly) (n : Nat)  (x0 : Nat) (x1 : Int32) (x2 : Int32) (x3 : Int32) (x4 : Int32) (s0 : Int32) (h : Hp) : Option (Int32 × Hp) :=
    f0_text_J88 K n x0 x1 x2 x3 x4 s0 (if x2 < 0 then (0 : Int32) else (if x4 ≤ x2 then (0 : Int32) else (1 : Int32))) h
def f0_text (K : Ly) (n : Nat) (o : Nat) (a1 : Int32) (a2 : Int32) (h : Hp) : Option (Int32 × Hp) :=
    lt (h.1 (o + 1) 1) fun x3_1 =>
    lt (sI h (o + 1) 1 (0 : Int32)) fun h2 =>
    lt (sI h2 (o + 1) 2 (0 : Int32)) fun h3 =>
    lt (sI h3 (o + 1) 3 (-1 : Int32)) fun h4 =>
    if a1 < 0 then (
    some ((-2 : Int32), h4))
    else (
    if a1 < (3 : Int32) then (
    gd (inb a1 3) <|
    lt (h4.1 ((o + 1) + 2) a1.toNatClampNeg) fun x4_8 =>
    f0_text_J71 K n o a1 a2 x3_1 x4_8 (if a2 = (-1 : Int32) then (if (2 : Int32) ≤ x4_8 then (0 : Int32) else (1 : Int32)) else (0 : Int32)) h4)
    else (
    some ((-2 : Int32), h4)))
set_option maxHeartbeats 4000000 in
set_option maxRecDepth 20000 in
theorem w0_text_J170 {Γ : CT} {sp : Sp} {K : Ly} {sz n : Nat} {v : Int32} {hf : Hp}   (X : Ok Γ sp prog_1_method_4_code Rc0 8 (some (.int)) 9 (some (.int v)) sz K hf) (hK : LyOk K) (x0 : Nat) (x1 : Int32) (s0 : Int32) (h : Hp)  (px0 : K x0 = some (.inl 0)) (E : f0_text_J170 K n x0 x1 s0 h = some (v, hf)) : Go Γ (0, 0) 170 [(0, .ref x0), (1, .int x1)] [.int s0] sz K h := by
  unfold f0_text_J170 at E
  refine s_istore (i := 7) X (by decide +kernel) (by decide) rfl (ls_next (by decide) (Or.inr rfl) (ls_next (by decide) (Or.inr rfl) (ls_ins ls_end))) ?_
  refine g_aload_n (n := 0) X (by decide +kernel) 0 rfl ?_
  refine g_getS X (by decide +kernel) fl0_10 px0 ?_
  refine g_iload_n (n := 1) X (by decide +kernel) 1 rfl ?_
  refine g_iload (n := 7) X (by decide +kernel) 2 rfl ?_
  refine g_aload_n (n := 0) X (by decide +kernel) 0 rfl ?_
  refine g_getS X (by decide +kernel) fl0_27 px0 ?_
  obtain ⟨h22, e21, E⟩ := bp_E E
  refine g_callV0 (st := []) X [.int x1, .int s0, .ref (x0 + 187)] (by decide +kernel) ml0_75 (ly hK px0 fl0_10 rfl) rfl rfl (by decide) (Nat.le_of_ble_eq_true rfl) (c1_put hK (x0 + 1) x1 s0 (x0 + 187) h (ly hK px0 fl0_10 rfl) (ly hK px0 fl0_27 rfl) e21) ?_
  refine g_iload (n := 7) X (by decide +kernel) 2 rfl ?_
  obtain ⟨rfl, rfl⟩ := rt_E E
  exact g_ireturn X (by decide +kernel)
set_option maxHeartbeats 4000000 in
set_option maxRecDepth 20000 in
theorem w0_text_J103 {Γ : CT} {sp : Sp} {K : Ly} {sz n : Nat} {v : Int32} {hf : Hp}   (X : Ok Γ sp prog_1_method_4_code Rc0 8 (some (.int)) 9 (some (.int v)) sz K hf) (hK : LyOk K) (x0 : Nat) (x1 : Int32) (x2 : Int32) (x3 : Int32) (x4 : Int32) (x5 : Int32) (h : Hp)  (px0 : K x0 = some (.inl 0)) (E : f0_text_J103 K n x0 x1 x2 x3 x4 x5 h = some (v, hf)) : Go Γ (0, 0) 103 [(0, .ref x0), (1, .int x1), (2, .int x2), (3, .int x3), (4, .int x4), (5, .int x5)] [] sz K h := by
  unfold f0_text_J103 at E
  refine g_aload_n (n := 0) X (by decide +kernel) 0 rfl ?_
  refine g_getS X (by decide +kernel) fl0_27 px0 ?_
  refine g_aload_n (n := 0) X (by decide +kernel) 0 rfl ?_
  refine g_getS X (by decide +kernel) fl0_10 px0 ?_
  refine g_getS X (by decide +kernel) fl0_65 (ly hK px0 fl0_10 rfl) ?_
  refine g_iload_n (n := 3) X (by decide +kernel) 3 rfl ?_
  refine g_iload_n (n := 1) X (by decide +kernel) 1 rfl ?_
  obtain ⟨h16, e15, E⟩ := bp_E E
  refine g_callV0 (st := []) X [.ref ((x0 + 1) + 1), .int x3, .int x1] (by decide +kernel) ml0_69 (ly hK px0 fl0_27 rfl) rfl rfl (by decide) (Nat.le_of_ble_eq_true rfl) (c5_read hK (x0 + 187) ((x0 + 1) + 1) 600 x3 x1 h (ly hK px0 fl0_27 rfl) (ly hK (ly hK px0 fl0_10 rfl) fl0_65 rfl) e15) ?_
  refine g_aload_n (n := 0) X (by decide +kernel) 0 rfl ?_
  refine g_getS X (by decide +kernel) fl0_10 px0 ?_
  refine g_aload_n (n := 0) X (by decide +kernel) 0 rfl ?_
  refine g_getS X (by decide +kernel) fl0_27 px0 ?_
  refine g_getI X (by decide +kernel) fl0_73 (ly hK px0 fl0_27 rfl) ?_
  obtain ⟨h17, eh17, E⟩ := lt_E E
  refine g_putI X (by decide +kernel) fp0_56 (ly hK px0 fl0_10 rfl) eh17 ?_
  refine g_aload_n (n := 0) X (by decide +kernel) 0 rfl ?_
  refine g_getS X (by decide +kernel) fl0_10 px0 ?_
  refine g_aload_n (n := 0) X (by decide +kernel) 0 rfl ?_
  refine g_getS X (by decide +kernel) fl0_27 px0 ?_
  refine g_getI X (by decide +kernel) fl0_74 (ly hK px0 fl0_27 rfl) ?_
  obtain ⟨h18, eh18, E⟩ := lt_E E
  refine g_putI X (by decide +kernel) fp0_59 (ly hK px0 fl0_10 rfl) eh18 ?_
  refine g_aload_n (n := 0) X (by decide +kernel) 0 rfl ?_
  refine g_getS X (by decide +kernel) fl0_27 px0 ?_
  refine g_getI X (by decide +kernel) fl0_73 (ly hK px0 fl0_27 rfl) ?_
  rcases it_E E with ⟨c19, E⟩ | ⟨c19, E⟩
  · refine g_if_eq_t (off := 5) (tgt := 159) X (by decide +kernel) (by decide) c19 ?_
    refine g_iload (n := 5) X (by decide +kernel) 5 rfl ?_
    have hJ : Go Γ (0, 0) 170 [(0, .ref x0), (1, .int x1)] [.int (if x5 = 0 then x2 else x4)] sz K h18 := by
      exact w0_text_J170 X hK x0 x1 (if x5 = 0 then x2 else x4) h18 px0 E
    clear E
    by_cases c20 : x5 = 0
    · rw [if_pos c20] at hJ
      refine g_if_eq_t (off := 8) (tgt := 169) X (by decide +kernel) (by decide) c20 ?_
      refine g_iload_n (n := 2) X (by decide +kernel) 2 rfl ?_
      refine g_sub [0, 1] rfl ?_
      exact hJ
    · rw [if_neg c20] at hJ
      refine g_if_eq_f (off := 8) (tgt := 169) X (by decide +kernel) (by decide) c20 ?_
      refine g_iload (n := 4) X (by decide +kernel) 4 rfl ?_
      refine g_goto (off := 4) (tgt := 170) X (by decide +kernel) (by decide) ?_
      refine g_sub [0, 1] rfl ?_
      exact hJ
  · refine g_if_eq_f (off := 5) (tgt := 159) X (by decide +kernel) (by decide) c19 ?_
    refine g_iconst (n := -1) (x := (-1 : Int32)) X (by decide +kernel) (by decide) ?_
    obtain ⟨rfl, rfl⟩ := rt_E E
    exact g_ireturn X (by decide +kernel)
set_option maxHeartbeats 4000000 in
set_option maxRecDepth 20000 in
theorem w0_text_J88 {Γ : CT} {sp : Sp} {K : Ly} {sz n : Nat} {v : Int32} {hf : Hp}   (X : Ok Γ sp prog_1_method_4_code Rc0 8 (some (.int)) 9 (some (.int v)) sz K hf) (hK : LyOk K) (x0 : Nat) (x1 : Int32) (x2 : Int32) (x3 : Int32) (x4 : Int32) (x5 : Int32) (s0 : Int32) (h : Hp)  (px0 : K x0 = some (.inl 0)) (E : f0_text_J88 K n x0 x1 x2 x3 x4 x5 s0 h = some (v, hf)) : Go Γ (0, 0) 88 [(0, .ref x0), (1, .int x1), (2, .int x2), (3, .int x3), (4, .int x4), (5, .int x5)] [.int s0] sz K h := by
  unfold f0_text_J88 at E
  refine s_istore (i := 6) X (by decide +kernel) (by decide) rfl (ls_next (by decide) (Or.inr rfl) (ls_next (by decide) (Or.inr rfl) (ls_next (by decide) (Or.inr rfl) (ls_next (by decide) (Or.inr rfl) (ls_next (by decide) (Or.inr rfl) (ls_next (by decide) (Or.inr rfl) (ls_ins ls_end))))))) ?_
  refine g_iload (n := 5) X (by decide +kernel) 5 rfl ?_
  rcases it_E E with ⟨c13, E⟩ | ⟨c13, E⟩
  · refine g_if_ne_f (off := 11) (tgt := 103) X (by decide +kernel) (by decide) (fun z => z c13) ?_
    refine g_iload (n := 6) X (by decide +kernel) 6 rfl ?_
    rcases it_E E with ⟨c14, E⟩ | ⟨c14, E⟩
    · refine g_if_ne_f (off := 6) (tgt := 103) X (by decide +kernel) (by decide) (fun z => z c14) ?_
      refine g_bipush (n := -2) (x := (-2 : Int32)) X (by decide +kernel) (by decide) ?_
      obtain ⟨rfl, rfl⟩ := rt_E E
      exact g_ireturn X (by decide +kernel)
    · refine g_if_ne_t (off := 6) (tgt := 103) X (by decide +kernel) (by decide) c14 ?_
      refine g_sub [0, 1, 2, 3, 4, 5] rfl ?_
      exact w0_text_J103 X hK x0 x1 x2 x3 x4 x5 h px0 E
  · refine g_if_ne_t (off := 11) (tgt := 103) X (by decide +kernel) (by decide) c13 ?_
    refine g_sub [0, 1, 2, 3, 4, 5] rfl ?_
    exact w0_text_J103 X hK x0 x1 x2 x3 x4 x5 h px0 E
set_option maxHeartbeats 4000000 in
set_option maxRecDepth 20000 in
theorem w0_text_J71 {Γ : CT} {sp : Sp} {K : Ly} {sz n : Nat} {v : Int32} {hf : Hp}   (X : Ok Γ sp prog_1_method_4_code Rc0 8 (some (.int)) 9 (some (.int v)) sz K hf) (hK : LyOk K) (x0 : Nat) (x1 : Int32) (x2 : Int32) (x3 : Int32) (x4 : Int32) (s0 : Int32) (h : Hp)  (px0 : K x0 = some (.inl 0)) (E : f0_text_J71 K n x0 x1 x2 x3 x4 s0 h = some (v, hf)) : Go Γ (0, 0) 71 [(0, .ref x0), (1, .int x1), (2, .int x2), (3, .int x3), (4, .int x4)] [.int s0] sz K h := by
  unfold f0_text_J71 at E
  refine s_istore (i := 5) X (by decide +kernel) (by decide) rfl (ls_next (by decide) (Or.inr rfl) (ls_next (by decide) (Or.inr rfl) (ls_next (by decide) (Or.inr rfl) (ls_next (by decide) (Or.inr rfl) (ls_next (by decide) (Or.inr rfl) (ls_ins ls_end)))))) ?_
  refine g_iload_n (n := 2) X (by decide +kernel) 2 rfl ?_
  have hJ : Go Γ (0, 0) 88 [(0, .ref x0), (1, .int x1), (2, .int x2), (3, .int x3), (4, .int x4), (5, .int s0)] [.int (if x2 < 0 then (0 : Int32) else (if x4 ≤ x2 then (0 : Int32) else (1 : Int32)))] sz K h := by
    exact w0_text_J88 X hK x0 x1 x2 x3 x4 s0 (if x2 < 0 then (0 : Int32) else (if x4 ≤ x2 then (0 : Int32) else (1 : Int32))) h px0 E
  clear E
  by_cases c11 : x2 < 0
  · rw [if_pos c11] at hJ
    refine g_if_lt_t (off := 13) (tgt := 87) X (by decide +kernel) (by decide) c11 ?_
    refine g_iconst (n := 0) (x := (0 : Int32)) X (by decide +kernel) (by decide) ?_
    exact hJ
  · rw [if_neg c11] at hJ
    refine g_if_lt_f (off := 13) (tgt := 87) X (by decide +kernel) (by decide) c11 ?_
    refine g_iload_n (n := 2) X (by decide +kernel) 2 rfl ?_
    refine g_iload (n := 4) X (by decide +kernel) 4 rfl ?_
    by_cases c12 : x4 ≤ x2
    · rw [if_pos c12] at hJ
      refine g_icmp_ge_t (off := 7) (tgt := 87) X (by decide +kernel) (by decide) c12 ?_
      refine g_iconst (n := 0) (x := (0 : Int32)) X (by decide +kernel) (by decide) ?_
      exact hJ
    · rw [if_neg c12] at hJ
      refine g_icmp_ge_f (off := 7) (tgt := 87) X (by decide +kernel) (by decide) c12 ?_
      refine g_iconst (n := 1) (x := (1 : Int32)) X (by decide +kernel) (by decide) ?_
      refine g_goto (off := 4) (tgt := 88) X (by decide +kernel) (by decide) ?_
      exact hJ
set_option maxHeartbeats 4000000 in
set_option maxRecDepth 20000 in
theorem c0_text {sp : Sp} {K : Ly} {sz n : Nat} (hK : LyOk K) (o : Nat) (a1 : Int32) (a2 : Int32) (h : Hp) (ho : K o = some (.inl 0)) {v : Int32} {hf : Hp} (E : f0_text K n o a1 a2 h = some (v, hf)) : Con sp y0_text prog_1_method_4_code 8 (some (.int)) 9 0 0 [.ref o, .int a1, .int a2] sz K h (some (.int v)) sz K hf := by
  refine Con.of (by decide) (Nat.le_of_ble_eq_true rfl) (fun Γ X _ => ?_)
  show Go Γ (0, 0) 0 [(0, .ref o), (1, .int a1), (2, .int a2)] [] sz K h
  unfold f0_text at E
  refine g_aload_n (n := 0) X (by decide +kernel) 0 rfl ?_
  refine g_getS X (by decide +kernel) fl0_10 ho ?_
  refine g_getI X (by decide +kernel) fl0_48 (ly hK ho fl0_10 rfl) ?_
  obtain ⟨x3_1, ex3_1, E⟩ := lt_E E
  refine s_istore_n (n := 3) (i := 3) X (by decide +kernel) rfl (by decide) ex3_1 (ls_next (by decide) (Or.inr rfl) (ls_next (by decide) (Or.inr rfl) (ls_next (by decide) (Or.inr rfl) (ls_ins ls_end)))) ?_
  refine g_aload_n (n := 0) X (by decide +kernel) 0 rfl ?_
  refine g_getS X (by decide +kernel) fl0_10 ho ?_
  refine g_iconst (n := 0) (x := (0 : Int32)) X (by decide +kernel) (by decide) ?_
  obtain ⟨h2, eh2, E⟩ := lt_E E
  refine g_putI X (by decide +kernel) fp0_48 (ly hK ho fl0_10 rfl) eh2 ?_
  refine g_aload_n (n := 0) X (by decide +kernel) 0 rfl ?_
  refine g_getS X (by decide +kernel) fl0_10 ho ?_
  refine g_iconst (n := 0) (x := (0 : Int32)) X (by decide +kernel) (by decide) ?_
  obtain ⟨h3, eh3, E⟩ := lt_E E
  refine g_putI X (by decide +kernel) fp0_56 (ly hK ho fl0_10 rfl) eh3 ?_
  refine g_aload_n (n := 0) X (by decide +kernel) 0 rfl ?_
  refine g_getS X (by decide +kernel) fl0_10 ho ?_
  refine g_iconst (n := -1) (x := (-1 : Int32)) X (by decide +kernel) (by decide) ?_
  obtain ⟨h4, eh4, E⟩ := lt_E E
  refine g_putI X (by decide +kernel) fp0_59 (ly hK ho fl0_10 rfl) eh4 ?_
  refine g_iload_n (n := 1) X (by decide +kernel) 1 rfl ?_
  rcases it_E E with ⟨c5, E⟩ | ⟨c5, E⟩
  · refine g_if_lt_t (off := 8) (tgt := 41) X (by decide +kernel) (by decide) c5 ?_
    refine g_bipush (n := -2) (x := (-2 : Int32)) X (by decide +kernel) (by decide) ?_
    obtain ⟨rfl, rfl⟩ := rt_E E
    exact g_ireturn X (by decide +kernel)
  · refine g_if_lt_f (off := 8) (tgt := 41) X (by decide +kernel) (by decide) c5 ?_
    refine g_iload_n (n := 1) X (by decide +kernel) 1 rfl ?_
    refine g_iconst (n := 3) (x := (3 : Int32)) X (by decide +kernel) (by decide) ?_
    rcases it_E E with ⟨c6, E⟩ | ⟨c6, E⟩
    · refine g_icmp_lt_t (off := 6) (tgt := 44) X (by decide +kernel) (by decide) c6 ?_
      refine g_aload_n (n := 0) X (by decide +kernel) 0 rfl ?_
      refine g_getS X (by decide +kernel) fl0_10 ho ?_
      refine g_getS X (by decide +kernel) fl0_62 (ly hK ho fl0_10 rfl) ?_
      refine g_iload_n (n := 1) X (by decide +kernel) 1 rfl ?_
      obtain ⟨c7, E⟩ := gd_E E
      refine g_iald X (by decide +kernel) (ly hK (ly hK ho fl0_10 rfl) fl0_62 rfl) c7 ?_
      obtain ⟨x4_8, ex4_8, E⟩ := lt_E E
      refine s_istore (i := 4) X (by decide +kernel) (by decide) ex4_8 (ls_next (by decide) (Or.inr rfl) (ls_next (by decide) (Or.inr rfl) (ls_next (by decide) (Or.inr rfl) (ls_next (by decide) (Or.inr rfl) (ls_ins ls_end))))) ?_
      refine g_iload_n (n := 2) X (by decide +kernel) 2 rfl ?_
      refine g_iconst (n := -1) (x := (-1 : Int32)) X (by decide +kernel) (by decide) ?_
      have hJ : Go Γ (0, 0) 71 [(0, .ref o), (1, .int a1), (2, .int a2), (3, .int x3_1), (4, .int x4_8)] [.int (if a2 = (-1 : Int32) then (if (2 : Int32) ≤ x4_8 then (0 : Int32) else (1 : Int32)) else (0 : Int32))] sz K h4 := by
        exact w0_text_J71 X hK o a1 a2 x3_1 x4_8 (if a2 = (-1 : Int32) then (if (2 : Int32) ≤ x4_8 then (0 : Int32) else (1 : Int32)) else (0 : Int32)) h4 ho E
      clear E
      by_cases c9 : a2 = (-1 : Int32)
      · rw [if_pos c9] at hJ
        refine g_icmp_ne_f (off := 13) (tgt := 70) X (by decide +kernel) (by decide) (fun z => z c9) ?_
        refine g_iload (n := 4) X (by decide +kernel) 4 rfl ?_
        refine g_iconst (n := 2) (x := (2 : Int32)) X (by decide +kernel) (by decide) ?_
        by_cases c10 : (2 : Int32) ≤ x4_8
        · rw [if_pos c10] at hJ
          refine g_icmp_ge_t (off := 7) (tgt := 70) X (by decide +kernel) (by decide) c10 ?_
          refine g_iconst (n := 0) (x := (0 : Int32)) X (by decide +kernel) (by decide) ?_
          exact hJ
        · rw [if_neg c10] at hJ
          refine g_icmp_ge_f (off := 7) (tgt := 70) X (by decide +kernel) (by decide) c10 ?_
          refine g_iconst (n := 1) (x := (1 : Int32)) X (by decide +kernel) (by decide) ?_
          refine g_goto (off := 4) (tgt := 71) X (by decide +kernel) (by decide) ?_
          exact hJ
      · rw [if_neg c9] at hJ
        refine g_icmp_ne_t (off := 13) (tgt := 70) X (by decide +kernel) (by decide) c9 ?_
        refine g_iconst (n := 0) (x := (0 : Int32)) X (by decide +kernel) (by decide) ?_
        exact hJ
    · refine g_icmp_lt_f (off := 6) (tgt := 44) X (by decide +kernel) (by decide) c6 ?_
      refine g_bipush (n := -2) (x := (-2 : Int32)) X (by decide +kernel) (by decide) ?_
      obtain ⟨rfl, rfl⟩ := rt_E E
      exact g_ireturn X (by decide +kernel)
