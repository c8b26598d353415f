set_option maxRecDepth 20000 in
theorem d_law_33 : decode code 33 = .ok (.tableswitch 1183 0 23 #[111, 174, 197, 230, 253, 286, 329, 362, 415, 490, 565, 618, 681, 724, 793, 846, 889, 932, 985, 1038, 1081, 1114, 1137, 1160], 111) := by decide +kernel
theorem law_gt {i L : Nat} (hi : i ≤ 4000) (hL : L ≤ 3584) : (nI L - (7 : Int32) < nI i) = (L < i + 7) := by
  by_cases h7 : 7 ≤ L
  · obtain ⟨q, rfl⟩ : ∃ q, L = q + 7 := ⟨L - 7, by omega⟩
    have e : nI (q + 7) - (7 : Int32) = nI q := by
      rw [← nI_add q 7]
      show nI q + nI 7 - nI 7 = nI q
      rw [Int32.add_sub_cancel]
    rw [e, x_lt' (by omega) (by omega)]
    exact propext ⟨fun h => by omega, fun h => by omega⟩
  · have h0 : nI L - (7 : Int32) < 0 := by
      have : L = 0 ∨ L = 1 ∨ L = 2 ∨ L = 3 ∨ L = 4 ∨ L = 5 ∨ L = 6 := by omega
      rcases this with rfl | rfl | rfl | rfl | rfl | rfl | rfl
      all_goals decide
    have h1 : (0 : Int32) ≤ nI i := Int32.not_lt.mp (nI_pos (by omega))
    exact propext ⟨fun _ => by omega, fun _ => Int32.lt_of_lt_of_le h0 h1⟩
set_option maxRecDepth 20000 in
theorem law_case {Γ : CT} {sp : Sp} {hf : Hp} {cs : Nat × Nat} {b L x m sz : Nat} {xs : Nat → Int32} {K1 K2 : Ly} (X : Ok Γ sp code "AskedNamesLaw" 4 (some .boolean) 16 (some (.int 1)) sz (fun _ => none) hf) (O : Ol Γ 600000 7302250) (S : Sx Γ b L xs) (hL : L ≤ 3584) (E : LE x m K1 K2) (hcs : cs.1 ≤ 600000 ∧ cs.2 ≤ 7302250) {i : Nat} {h1 h2 : Hp} (hi : i + 7 ≤ L) (v : XX x h1 m h2) (kk : ∀ h1' h2', XX x h1' m h2' → Go Γ cs 1216 [(0, .ref b), (1, .ref x), (2, .ref m), (3, .int (nI i))] [] sz (mgK m K1 K2) (mg m h1' h2')) {z : Int32} : Go Γ cs 33 [(0, .ref b), (1, .ref x), (2, .ref m), (3, .int (nI i))] [.int z] sz (mgK m K1 K2) (mg m h1 h2) := by
  by_cases hz : z.toInt < 0 ∨ 23 < z.toInt
  · exact g_tab_out (dflt := 1183) (tgt := 1216) X d_law_33 hz (by decide) (kk h1 h2 v)
  · have : z.toInt = 0 ∨ z.toInt = 1 ∨ z.toInt = 2 ∨ z.toInt = 3 ∨ z.toInt = 4 ∨ z.toInt = 5 ∨ z.toInt = 6 ∨ z.toInt = 7 ∨ z.toInt = 8 ∨ z.toInt = 9 ∨ z.toInt = 10 ∨ z.toInt = 11 ∨ z.toInt = 12 ∨ z.toInt = 13 ∨ z.toInt = 14 ∨ z.toInt = 15 ∨ z.toInt = 16 ∨ z.toInt = 17 ∨ z.toInt = 18 ∨ z.toInt = 19 ∨ z.toInt = 20 ∨ z.toInt = 21 ∨ z.toInt = 22 ∨ z.toInt = 23 := by omega
    rcases this with hq | hq | hq | hq | hq | hq | hq | hq | hq | hq | hq | hq | hq | hq | hq | hq | hq | hq | hq | hq | hq | hq | hq | hq
    · exact g_tab_in (off := 111) (tgt := 144) X d_law_33 (by rw [hq]; decide) (by rw [hq]; decide) (by rw [hq]; rfl) (by decide) (lc_feed X O S hL E hcs hi v kk)
    · exact g_tab_in (off := 174) (tgt := 207) X d_law_33 (by rw [hq]; decide) (by rw [hq]; decide) (by rw [hq]; rfl) (by decide) (lc_end X O S hL E hcs hi v kk)
    · exact g_tab_in (off := 197) (tgt := 230) X d_law_33 (by rw [hq]; decide) (by rw [hq]; decide) (by rw [hq]; rfl) (by decide) (lc_text X O S hL E hcs hi v kk)
    · exact g_tab_in (off := 230) (tgt := 263) X d_law_33 (by rw [hq]; decide) (by rw [hq]; decide) (by rw [hq]; rfl) (by decide) (lc_fault X O S hL E hcs hi v kk)
    · exact g_tab_in (off := 253) (tgt := 286) X d_law_33 (by rw [hq]; decide) (by rw [hq]; decide) (by rw [hq]; rfl) (by decide) (lc_net X O S hL E hcs hi v kk)
    · exact g_tab_in (off := 286) (tgt := 319) X d_law_33 (by rw [hq]; decide) (by rw [hq]; decide) (by rw [hq]; rfl) (by decide) (lc_deed X O S hL E hcs hi v kk)
    · exact g_tab_in (off := 329) (tgt := 362) X d_law_33 (by rw [hq]; decide) (by rw [hq]; decide) (by rw [hq]; rfl) (by decide) (lc_stop X O S hL E hcs hi v kk)
    · exact g_tab_in (off := 362) (tgt := 395) X d_law_33 (by rw [hq]; decide) (by rw [hq]; decide) (by rw [hq]; rfl) (by decide) (lc_state X O S hL E hcs hi v kk)
    · exact g_tab_in (off := 415) (tgt := 448) X d_law_33 (by rw [hq]; decide) (by rw [hq]; decide) (by rw [hq]; rfl) (by decide) (lc_stored X O S hL E hcs hi v kk)
    · exact g_tab_in (off := 490) (tgt := 523) X d_law_33 (by rw [hq]; decide) (by rw [hq]; decide) (by rw [hq]; rfl) (by decide) (lc_entry X O S hL E hcs hi v kk)
    · exact g_tab_in (off := 565) (tgt := 598) X d_law_33 (by rw [hq]; decide) (by rw [hq]; decide) (by rw [hq]; rfl) (by decide) (lc_why X O S hL E hcs hi v kk)
    · exact g_tab_in (off := 618) (tgt := 651) X d_law_33 (by rw [hq]; decide) (by rw [hq]; decide) (by rw [hq]; rfl) (by decide) (lc_alone X O S hL E hcs hi v kk)
    · exact g_tab_in (off := 681) (tgt := 714) X d_law_33 (by rw [hq]; decide) (by rw [hq]; decide) (by rw [hq]; rfl) (by decide) (lc_table X O S hL E hcs hi v kk)
    · exact g_tab_in (off := 724) (tgt := 757) X d_law_33 (by rw [hq]; decide) (by rw [hq]; decide) (by rw [hq]; rfl) (by decide) (lc_ways X O S hL E hcs hi v kk)
    · exact g_tab_in (off := 793) (tgt := 826) X d_law_33 (by rw [hq]; decide) (by rw [hq]; decide) (by rw [hq]; rfl) (by decide) (lc_trail X O S hL E hcs hi v kk)
    · exact g_tab_in (off := 846) (tgt := 879) X d_law_33 (by rw [hq]; decide) (by rw [hq]; decide) (by rw [hq]; rfl) (by decide) (lc_far X O S hL E hcs hi v kk)
    · exact g_tab_in (off := 889) (tgt := 922) X d_law_33 (by rw [hq]; decide) (by rw [hq]; decide) (by rw [hq]; rfl) (by decide) (lc_fact X O S hL E hcs hi v kk)
    · exact g_tab_in (off := 932) (tgt := 965) X d_law_33 (by rw [hq]; decide) (by rw [hq]; decide) (by rw [hq]; rfl) (by decide) (lc_fits X O S hL E hcs hi v kk)
    · exact g_tab_in (off := 985) (tgt := 1018) X d_law_33 (by rw [hq]; decide) (by rw [hq]; decide) (by rw [hq]; rfl) (by decide) (lc_drawn X O S hL E hcs hi v kk)
    · exact g_tab_in (off := 1038) (tgt := 1071) X d_law_33 (by rw [hq]; decide) (by rw [hq]; decide) (by rw [hq]; rfl) (by decide) (lc_after X O S hL E hcs hi v kk)
    · exact g_tab_in (off := 1081) (tgt := 1114) X d_law_33 (by rw [hq]; decide) (by rw [hq]; decide) (by rw [hq]; rfl) (by decide) (lc_edges X O S hL E hcs hi v kk)
    · exact g_tab_in (off := 1114) (tgt := 1147) X d_law_33 (by rw [hq]; decide) (by rw [hq]; decide) (by rw [hq]; rfl) (by decide) (lc_count X O S hL E hcs hi v kk)
    · exact g_tab_in (off := 1137) (tgt := 1170) X d_law_33 (by rw [hq]; decide) (by rw [hq]; decide) (by rw [hq]; rfl) (by decide) (lc_image X O S hL E hcs hi v kk)
    · exact g_tab_in (off := 1160) (tgt := 1193) X d_law_33 (by rw [hq]; decide) (by rw [hq]; decide) (by rw [hq]; rfl) (by decide) (lc_again X O S hL E hcs hi v kk)
set_option maxRecDepth 20000 in
theorem law_loop {Γ : CT} {sp : Sp} {hf : Hp} {cs : Nat × Nat} {b L x m sz : Nat} {xs : Nat → Int32} {K1 K2 : Ly} (X : Ok Γ sp code "AskedNamesLaw" 4 (some .boolean) 16 (some (.int 1)) sz (fun _ => none) hf) (O : Ol Γ 600000 7302250) (S : Sx Γ b L xs) (hL : L ≤ 3584) (E : LE x m K1 K2) (hcs : cs.1 ≤ 600000 ∧ cs.2 ≤ 7302250) : ∀ (d i : Nat) (h1 h2 : Hp), L < i + d → i ≤ 3600 → XX x h1 m h2 → Go Γ cs 18 [(0, .ref b), (1, .ref x), (2, .ref m), (3, .int (nI i))] [] sz (mgK m K1 K2) (mg m h1 h2) := by
  have out : ∀ (i : Nat) (h1 h2 : Hp), L < i + 7 → i ≤ 3600 → Go Γ cs 18 [(0, .ref b), (1, .ref x), (2, .ref m), (3, .int (nI i))] [] sz (mgK m K1 K2) (mg m h1 h2) := fun i h1 h2 hd hi => by
    refine g_iload_n (n := 3) X (by decide +kernel) 3 rfl ?_
    refine g_aload_n (n := 0) X (by decide +kernel) 0 rfl ?_
    refine g_slen X S (by decide +kernel) ?_
    refine g_bipush (n := 7) (x := (7 : Int32)) X (by decide +kernel) (by decide) ?_
    refine g_isub X (by decide +kernel) ?_
    refine g_icmp_gt_t (off := 1198) (tgt := 1222) X (by decide +kernel) (by decide) (by rw [law_gt (by omega) hL]; exact hd) ?_
    refine g_iconst (n := 1) (x := (1 : Int32)) X (by decide +kernel) (by decide) ?_
    exact g_lret X O (by decide +kernel) rfl hcs.1 hcs.2
  intro d
  induction d with
  | zero => intro i h1 h2 hd hi v; exact out i h1 h2 (by omega) hi
  | succ d ih =>
    intro i h1 h2 hd hi v
    by_cases h7 : L < i + 7
    · exact out i h1 h2 h7 hi
    · refine g_iload_n (n := 3) X (by decide +kernel) 3 rfl ?_
      refine g_aload_n (n := 0) X (by decide +kernel) 0 rfl ?_
      refine g_slen X S (by decide +kernel) ?_
      refine g_bipush (n := 7) (x := (7 : Int32)) X (by decide +kernel) (by decide) ?_
      refine g_isub X (by decide +kernel) ?_
      refine g_icmp_gt_f (off := 1198) (tgt := 1222) X (by decide +kernel) (by decide) (by rw [law_gt (by omega) hL]; exact h7) ?_
      refine g_aload_n (n := 0) X (by decide +kernel) 0 rfl ?_
      refine g_iload_n (n := 3) X (by decide +kernel) 3 rfl ?_
      refine g_sld (i := i) X S rfl (by omega) hL (by decide +kernel) ?_
      refine g_bipush (n := 31) (x := (31 : Int32)) X (by decide +kernel) (by decide) ?_
      refine g_iand X (by decide +kernel) ?_
      refine law_case X O S hL E hcs (by omega) v (fun h1' h2' v' => ?_)
      refine g_iinc (i := 3) (n := 7) (x := nI i) (y := nI (i + 7)) X (by decide +kernel) 3 rfl (nI_add i 7) (by decide) [1, 2, 3, 0] rfl ?_
      refine g_goto (off := -1201) (tgt := 18) X (by decide +kernel) (by decide) ?_
      exact ih (i + 7) h1' h2' (by omega) (by omega) v'
