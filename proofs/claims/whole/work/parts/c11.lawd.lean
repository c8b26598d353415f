set_option maxRecDepth 20000 in
theorem lc_stored {Γ : CT} {sp : Sp} {zf : Nat} {hf : Hp} {cs : Nat × Nat} {b L x m i sz : Nat} {xs : Nat → Int32} {K1 K2 : Ly} {h1 h2 : Hp} (X : Ok Γ sp code "AskedNamesLaw" 4 (some .boolean) 16 (some (.int 1)) zf (fun _ => none) hf) (O : Ol Γ 600000 7302250) (S : Sx Γ b L xs) (hL : L ≤ 3584) (E : LE x m K1 K2) (hcs : cs.1 ≤ 600000 ∧ cs.2 ≤ 7302250) (hi : i + 7 ≤ L) (v : XX x h1 m h2) (kk : ∀ h1' h2', XX x h1' m h2' → Go Γ cs 1216 [(0, .ref b), (1, .ref x), (2, .ref m), (3, .int (nI i))] [] sz (mgK m K1 K2) (mg m h1' h2')) : Go Γ cs 448 [(0, .ref b), (1, .ref x), (2, .ref m), (3, .int (nI i))] [] sz (mgK m K1 K2) (mg m h1 h2) := by
  obtain ⟨E1, E2, kx, ku, ki, ex, em, s1, s2⟩ := E
  obtain ⟨w, h1', h2', e1, e2, v'⟩ := both_stored (K1 := K1) (K2 := K2) (n := 5000) (a1 := xs (i + 1)) (a2 := xs (i + 2)) (a3 := xs (i + 3)) (a4 := xs (i + 4)) (a5 := xs (i + 5)) (a6 := xs (i + 6)) kx (Nat.le_refl _) v
  refine g_aload_n (n := 1) X (by decide +kernel) 1 rfl ?_
  refine g_aload_n (n := 0) X (by decide +kernel) 0 rfl ?_
  refine g_iload_n (n := 3) X (by decide +kernel) 3 rfl ?_
  refine g_iconst (n := 1) (x := nI 1) X (by decide +kernel) (by decide) ?_
  refine g_iadd X (by decide +kernel) ?_
  refine g_sld (i := i + 1) X S (nI_add _ _) (by omega) hL (by decide +kernel) ?_
  refine g_aload_n (n := 0) X (by decide +kernel) 0 rfl ?_
  refine g_iload_n (n := 3) X (by decide +kernel) 3 rfl ?_
  refine g_iconst (n := 2) (x := nI 2) X (by decide +kernel) (by decide) ?_
  refine g_iadd X (by decide +kernel) ?_
  refine g_sld (i := i + 2) X S (nI_add _ _) (by omega) hL (by decide +kernel) ?_
  refine g_aload_n (n := 0) X (by decide +kernel) 0 rfl ?_
  refine g_iload_n (n := 3) X (by decide +kernel) 3 rfl ?_
  refine g_iconst (n := 3) (x := nI 3) X (by decide +kernel) (by decide) ?_
  refine g_iadd X (by decide +kernel) ?_
  refine g_sld (i := i + 3) X S (nI_add _ _) (by omega) hL (by decide +kernel) ?_
  refine g_aload_n (n := 0) X (by decide +kernel) 0 rfl ?_
  refine g_iload_n (n := 3) X (by decide +kernel) 3 rfl ?_
  refine g_iconst (n := 4) (x := nI 4) X (by decide +kernel) (by decide) ?_
  refine g_iadd X (by decide +kernel) ?_
  refine g_sld (i := i + 4) X S (nI_add _ _) (by omega) hL (by decide +kernel) ?_
  refine g_aload_n (n := 0) X (by decide +kernel) 0 rfl ?_
  refine g_iload_n (n := 3) X (by decide +kernel) 3 rfl ?_
  refine g_iconst (n := 5) (x := nI 5) X (by decide +kernel) (by decide) ?_
  refine g_iadd X (by decide +kernel) ?_
  refine g_sld (i := i + 5) X S (nI_add _ _) (by omega) hL (by decide +kernel) ?_
  refine g_aload_n (n := 0) X (by decide +kernel) 0 rfl ?_
  refine g_iload_n (n := 3) X (by decide +kernel) 3 rfl ?_
  refine g_bipush (n := 6) (x := nI 6) X (by decide +kernel) (by decide) ?_
  refine g_iadd X (by decide +kernel) ?_
  refine g_sld (i := i + 6) X S (nI_add _ _) (by omega) hL (by decide +kernel) ?_
  refine g_call2 (Kc := K1) (hc := h1) (hc' := h1') (h' := mg m h1' h2) X O [.int (xs (i + 1)), .int (xs (i + 2)), .int (xs (i + 3)), .int (xs (i + 4)), .int (xs (i + 5)), .int (xs (i + 6))] (by decide +kernel) mlL_50 ex rfl rfl (by decide) (Nat.le_of_ble_eq_true rfl) hcs (mg_w1 s1) (mg_w2 s1) (c0_stored (n := 5000) E1 x (xs (i + 1)) (xs (i + 2)) (xs (i + 3)) (xs (i + 4)) (xs (i + 5)) (xs (i + 6)) h1 ex e1) ?_
  refine g_aload_n (n := 2) X (by decide +kernel) 2 rfl ?_
  refine g_aload_n (n := 0) X (by decide +kernel) 0 rfl ?_
  refine g_iload_n (n := 3) X (by decide +kernel) 3 rfl ?_
  refine g_iconst (n := 1) (x := nI 1) X (by decide +kernel) (by decide) ?_
  refine g_iadd X (by decide +kernel) ?_
  refine g_sld (i := i + 1) X S (nI_add _ _) (by omega) hL (by decide +kernel) ?_
  refine g_aload_n (n := 0) X (by decide +kernel) 0 rfl ?_
  refine g_iload_n (n := 3) X (by decide +kernel) 3 rfl ?_
  refine g_iconst (n := 2) (x := nI 2) X (by decide +kernel) (by decide) ?_
  refine g_iadd X (by decide +kernel) ?_
  refine g_sld (i := i + 2) X S (nI_add _ _) (by omega) hL (by decide +kernel) ?_
  refine g_aload_n (n := 0) X (by decide +kernel) 0 rfl ?_
  refine g_iload_n (n := 3) X (by decide +kernel) 3 rfl ?_
  refine g_iconst (n := 3) (x := nI 3) X (by decide +kernel) (by decide) ?_
  refine g_iadd X (by decide +kernel) ?_
  refine g_sld (i := i + 3) X S (nI_add _ _) (by omega) hL (by decide +kernel) ?_
  refine g_aload_n (n := 0) X (by decide +kernel) 0 rfl ?_
  refine g_iload_n (n := 3) X (by decide +kernel) 3 rfl ?_
  refine g_iconst (n := 4) (x := nI 4) X (by decide +kernel) (by decide) ?_
  refine g_iadd X (by decide +kernel) ?_
  refine g_sld (i := i + 4) X S (nI_add _ _) (by omega) hL (by decide +kernel) ?_
  refine g_aload_n (n := 0) X (by decide +kernel) 0 rfl ?_
  refine g_iload_n (n := 3) X (by decide +kernel) 3 rfl ?_
  refine g_iconst (n := 5) (x := nI 5) X (by decide +kernel) (by decide) ?_
  refine g_iadd X (by decide +kernel) ?_
  refine g_sld (i := i + 5) X S (nI_add _ _) (by omega) hL (by decide +kernel) ?_
  refine g_aload_n (n := 0) X (by decide +kernel) 0 rfl ?_
  refine g_iload_n (n := 3) X (by decide +kernel) 3 rfl ?_
  refine g_bipush (n := 6) (x := nI 6) X (by decide +kernel) (by decide) ?_
  refine g_iadd X (by decide +kernel) ?_
  refine g_sld (i := i + 6) X S (nI_add _ _) (by omega) hL (by decide +kernel) ?_
  refine g_call2 (Kc := K2) (hc := h2) (hc' := h2') (h' := mg m h1' h2') X O [.int (xs (i + 1)), .int (xs (i + 2)), .int (xs (i + 3)), .int (xs (i + 4)), .int (xs (i + 5)), .int (xs (i + 6))] (by decide +kernel) mlL_54 em rfl rfl (by decide) (Nat.le_of_ble_eq_true rfl) hcs (mg_w3 s2) (mg_w4 s2) (c11_stored (n := 5000) E2 m (xs (i + 1)) (xs (i + 2)) (xs (i + 3)) (xs (i + 4)) (xs (i + 5)) (xs (i + 6)) h2 em e2) ?_
  exact g_icmp_eq_t (off := 698) (tgt := 1216) X (by decide +kernel) (by decide) rfl (kk h1' h2' v')
set_option maxRecDepth 20000 in
theorem lc_entry {Γ : CT} {sp : Sp} {zf : Nat} {hf : Hp} {cs : Nat × Nat} {b L x m i sz : Nat} {xs : Nat → Int32} {K1 K2 : Ly} {h1 h2 : Hp} (X : Ok Γ sp code "AskedNamesLaw" 4 (some .boolean) 16 (some (.int 1)) zf (fun _ => none) hf) (O : Ol Γ 600000 7302250) (S : Sx Γ b L xs) (hL : L ≤ 3584) (E : LE x m K1 K2) (hcs : cs.1 ≤ 600000 ∧ cs.2 ≤ 7302250) (hi : i + 7 ≤ L) (v : XX x h1 m h2) (kk : ∀ h1' h2', XX x h1' m h2' → Go Γ cs 1216 [(0, .ref b), (1, .ref x), (2, .ref m), (3, .int (nI i))] [] sz (mgK m K1 K2) (mg m h1' h2')) : Go Γ cs 523 [(0, .ref b), (1, .ref x), (2, .ref m), (3, .int (nI i))] [] sz (mgK m K1 K2) (mg m h1 h2) := by
  obtain ⟨E1, E2, kx, ku, ki, ex, em, s1, s2⟩ := E
  obtain ⟨w, h1', h2', e1, e2, v'⟩ := both_entryC (K1 := K1) (K2 := K2) (n := 5000) (a1 := xs (i + 1)) (a2 := xs (i + 2)) (a3 := xs (i + 3)) (a4 := xs (i + 4)) (a5 := xs (i + 5)) (a6 := xs (i + 6)) kx (Nat.le_refl _) v
  refine g_aload_n (n := 1) X (by decide +kernel) 1 rfl ?_
  refine g_aload_n (n := 0) X (by decide +kernel) 0 rfl ?_
  refine g_iload_n (n := 3) X (by decide +kernel) 3 rfl ?_
  refine g_iconst (n := 1) (x := nI 1) X (by decide +kernel) (by decide) ?_
  refine g_iadd X (by decide +kernel) ?_
  refine g_sld (i := i + 1) X S (nI_add _ _) (by omega) hL (by decide +kernel) ?_
  refine g_aload_n (n := 0) X (by decide +kernel) 0 rfl ?_
  refine g_iload_n (n := 3) X (by decide +kernel) 3 rfl ?_
  refine g_iconst (n := 2) (x := nI 2) X (by decide +kernel) (by decide) ?_
  refine g_iadd X (by decide +kernel) ?_
  refine g_sld (i := i + 2) X S (nI_add _ _) (by omega) hL (by decide +kernel) ?_
  refine g_aload_n (n := 0) X (by decide +kernel) 0 rfl ?_
  refine g_iload_n (n := 3) X (by decide +kernel) 3 rfl ?_
  refine g_iconst (n := 3) (x := nI 3) X (by decide +kernel) (by decide) ?_
  refine g_iadd X (by decide +kernel) ?_
  refine g_sld (i := i + 3) X S (nI_add _ _) (by omega) hL (by decide +kernel) ?_
  refine g_aload_n (n := 0) X (by decide +kernel) 0 rfl ?_
  refine g_iload_n (n := 3) X (by decide +kernel) 3 rfl ?_
  refine g_iconst (n := 4) (x := nI 4) X (by decide +kernel) (by decide) ?_
  refine g_iadd X (by decide +kernel) ?_
  refine g_sld (i := i + 4) X S (nI_add _ _) (by omega) hL (by decide +kernel) ?_
  refine g_aload_n (n := 0) X (by decide +kernel) 0 rfl ?_
  refine g_iload_n (n := 3) X (by decide +kernel) 3 rfl ?_
  refine g_iconst (n := 5) (x := nI 5) X (by decide +kernel) (by decide) ?_
  refine g_iadd X (by decide +kernel) ?_
  refine g_sld (i := i + 5) X S (nI_add _ _) (by omega) hL (by decide +kernel) ?_
  refine g_aload_n (n := 0) X (by decide +kernel) 0 rfl ?_
  refine g_iload_n (n := 3) X (by decide +kernel) 3 rfl ?_
  refine g_bipush (n := 6) (x := nI 6) X (by decide +kernel) (by decide) ?_
  refine g_iadd X (by decide +kernel) ?_
  refine g_sld (i := i + 6) X S (nI_add _ _) (by omega) hL (by decide +kernel) ?_
  refine g_call2 (Kc := K1) (hc := h1) (hc' := h1') (h' := mg m h1' h2) X O [.int (xs (i + 1)), .int (xs (i + 2)), .int (xs (i + 3)), .int (xs (i + 4)), .int (xs (i + 5)), .int (xs (i + 6))] (by decide +kernel) mlL_55 ex rfl rfl (by decide) (Nat.le_of_ble_eq_true rfl) hcs (mg_w1 s1) (mg_w2 s1) (c0_entry (n := 5000) E1 x (xs (i + 1)) (xs (i + 2)) (xs (i + 3)) (xs (i + 4)) (xs (i + 5)) (xs (i + 6)) h1 ex e1) ?_
  refine g_aload_n (n := 2) X (by decide +kernel) 2 rfl ?_
  refine g_aload_n (n := 0) X (by decide +kernel) 0 rfl ?_
  refine g_iload_n (n := 3) X (by decide +kernel) 3 rfl ?_
  refine g_iconst (n := 1) (x := nI 1) X (by decide +kernel) (by decide) ?_
  refine g_iadd X (by decide +kernel) ?_
  refine g_sld (i := i + 1) X S (nI_add _ _) (by omega) hL (by decide +kernel) ?_
  refine g_aload_n (n := 0) X (by decide +kernel) 0 rfl ?_
  refine g_iload_n (n := 3) X (by decide +kernel) 3 rfl ?_
  refine g_iconst (n := 2) (x := nI 2) X (by decide +kernel) (by decide) ?_
  refine g_iadd X (by decide +kernel) ?_
  refine g_sld (i := i + 2) X S (nI_add _ _) (by omega) hL (by decide +kernel) ?_
  refine g_aload_n (n := 0) X (by decide +kernel) 0 rfl ?_
  refine g_iload_n (n := 3) X (by decide +kernel) 3 rfl ?_
  refine g_iconst (n := 3) (x := nI 3) X (by decide +kernel) (by decide) ?_
  refine g_iadd X (by decide +kernel) ?_
  refine g_sld (i := i + 3) X S (nI_add _ _) (by omega) hL (by decide +kernel) ?_
  refine g_aload_n (n := 0) X (by decide +kernel) 0 rfl ?_
  refine g_iload_n (n := 3) X (by decide +kernel) 3 rfl ?_
  refine g_iconst (n := 4) (x := nI 4) X (by decide +kernel) (by decide) ?_
  refine g_iadd X (by decide +kernel) ?_
  refine g_sld (i := i + 4) X S (nI_add _ _) (by omega) hL (by decide +kernel) ?_
  refine g_aload_n (n := 0) X (by decide +kernel) 0 rfl ?_
  refine g_iload_n (n := 3) X (by decide +kernel) 3 rfl ?_
  refine g_iconst (n := 5) (x := nI 5) X (by decide +kernel) (by decide) ?_
  refine g_iadd X (by decide +kernel) ?_
  refine g_sld (i := i + 5) X S (nI_add _ _) (by omega) hL (by decide +kernel) ?_
  refine g_aload_n (n := 0) X (by decide +kernel) 0 rfl ?_
  refine g_iload_n (n := 3) X (by decide +kernel) 3 rfl ?_
  refine g_bipush (n := 6) (x := nI 6) X (by decide +kernel) (by decide) ?_
  refine g_iadd X (by decide +kernel) ?_
  refine g_sld (i := i + 6) X S (nI_add _ _) (by omega) hL (by decide +kernel) ?_
  refine g_call2 (Kc := K2) (hc := h2) (hc' := h2') (h' := mg m h1' h2') X O [.int (xs (i + 1)), .int (xs (i + 2)), .int (xs (i + 3)), .int (xs (i + 4)), .int (xs (i + 5)), .int (xs (i + 6))] (by decide +kernel) mlL_58 em rfl rfl (by decide) (Nat.le_of_ble_eq_true rfl) hcs (mg_w3 s2) (mg_w4 s2) (c11_entry (n := 5000) E2 m (xs (i + 1)) (xs (i + 2)) (xs (i + 3)) (xs (i + 4)) (xs (i + 5)) (xs (i + 6)) h2 em e2) ?_
  exact g_icmp_eq_t (off := 623) (tgt := 1216) X (by decide +kernel) (by decide) rfl (kk h1' h2' v')
set_option maxRecDepth 20000 in
theorem lc_why {Γ : CT} {sp : Sp} {zf : Nat} {hf : Hp} {cs : Nat × Nat} {b L x m i sz : Nat} {xs : Nat → Int32} {K1 K2 : Ly} {h1 h2 : Hp} (X : Ok Γ sp code "AskedNamesLaw" 4 (some .boolean) 16 (some (.int 1)) zf (fun _ => none) hf) (O : Ol Γ 600000 7302250) (S : Sx Γ b L xs) (hL : L ≤ 3584) (E : LE x m K1 K2) (hcs : cs.1 ≤ 600000 ∧ cs.2 ≤ 7302250) (hi : i + 7 ≤ L) (v : XX x h1 m h2) (kk : ∀ h1' h2', XX x h1' m h2' → Go Γ cs 1216 [(0, .ref b), (1, .ref x), (2, .ref m), (3, .int (nI i))] [] sz (mgK m K1 K2) (mg m h1' h2')) : Go Γ cs 598 [(0, .ref b), (1, .ref x), (2, .ref m), (3, .int (nI i))] [] sz (mgK m K1 K2) (mg m h1 h2) := by
  obtain ⟨E1, E2, kx, ku, ki, ex, em, s1, s2⟩ := E
  obtain ⟨w, h1', h2', e1, e2, v'⟩ := both_why (K1 := K1) (K2 := K2) (n := 5000) (a1 := xs (i + 1)) (a2 := xs (i + 2)) (a3 := xs (i + 3)) (a4 := xs (i + 4)) kx (Nat.le_refl _) v
  refine g_aload_n (n := 1) X (by decide +kernel) 1 rfl ?_
  refine g_aload_n (n := 0) X (by decide +kernel) 0 rfl ?_
  refine g_iload_n (n := 3) X (by decide +kernel) 3 rfl ?_
  refine g_iconst (n := 1) (x := nI 1) X (by decide +kernel) (by decide) ?_
  refine g_iadd X (by decide +kernel) ?_
  refine g_sld (i := i + 1) X S (nI_add _ _) (by omega) hL (by decide +kernel) ?_
  refine g_aload_n (n := 0) X (by decide +kernel) 0 rfl ?_
  refine g_iload_n (n := 3) X (by decide +kernel) 3 rfl ?_
  refine g_iconst (n := 2) (x := nI 2) X (by decide +kernel) (by decide) ?_
  refine g_iadd X (by decide +kernel) ?_
  refine g_sld (i := i + 2) X S (nI_add _ _) (by omega) hL (by decide +kernel) ?_
  refine g_aload_n (n := 0) X (by decide +kernel) 0 rfl ?_
  refine g_iload_n (n := 3) X (by decide +kernel) 3 rfl ?_
  refine g_iconst (n := 3) (x := nI 3) X (by decide +kernel) (by decide) ?_
  refine g_iadd X (by decide +kernel) ?_
  refine g_sld (i := i + 3) X S (nI_add _ _) (by omega) hL (by decide +kernel) ?_
  refine g_aload_n (n := 0) X (by decide +kernel) 0 rfl ?_
  refine g_iload_n (n := 3) X (by decide +kernel) 3 rfl ?_
  refine g_iconst (n := 4) (x := nI 4) X (by decide +kernel) (by decide) ?_
  refine g_iadd X (by decide +kernel) ?_
  refine g_sld (i := i + 4) X S (nI_add _ _) (by omega) hL (by decide +kernel) ?_
  refine g_call2 (Kc := K1) (hc := h1) (hc' := h1') (h' := mg m h1' h2) X O [.int (xs (i + 1)), .int (xs (i + 2)), .int (xs (i + 3)), .int (xs (i + 4))] (by decide +kernel) mlL_59 ex rfl rfl (by decide) (Nat.le_of_ble_eq_true rfl) hcs (mg_w1 s1) (mg_w2 s1) (c0_why (n := 5000) E1 x (xs (i + 1)) (xs (i + 2)) (xs (i + 3)) (xs (i + 4)) h1 ex e1) ?_
  refine g_aload_n (n := 2) X (by decide +kernel) 2 rfl ?_
  refine g_aload_n (n := 0) X (by decide +kernel) 0 rfl ?_
  refine g_iload_n (n := 3) X (by decide +kernel) 3 rfl ?_
  refine g_iconst (n := 1) (x := nI 1) X (by decide +kernel) (by decide) ?_
  refine g_iadd X (by decide +kernel) ?_
  refine g_sld (i := i + 1) X S (nI_add _ _) (by omega) hL (by decide +kernel) ?_
  refine g_aload_n (n := 0) X (by decide +kernel) 0 rfl ?_
  refine g_iload_n (n := 3) X (by decide +kernel) 3 rfl ?_
  refine g_iconst (n := 2) (x := nI 2) X (by decide +kernel) (by decide) ?_
  refine g_iadd X (by decide +kernel) ?_
  refine g_sld (i := i + 2) X S (nI_add _ _) (by omega) hL (by decide +kernel) ?_
  refine g_aload_n (n := 0) X (by decide +kernel) 0 rfl ?_
  refine g_iload_n (n := 3) X (by decide +kernel) 3 rfl ?_
  refine g_iconst (n := 3) (x := nI 3) X (by decide +kernel) (by decide) ?_
  refine g_iadd X (by decide +kernel) ?_
  refine g_sld (i := i + 3) X S (nI_add _ _) (by omega) hL (by decide +kernel) ?_
  refine g_aload_n (n := 0) X (by decide +kernel) 0 rfl ?_
  refine g_iload_n (n := 3) X (by decide +kernel) 3 rfl ?_
  refine g_iconst (n := 4) (x := nI 4) X (by decide +kernel) (by decide) ?_
  refine g_iadd X (by decide +kernel) ?_
  refine g_sld (i := i + 4) X S (nI_add _ _) (by omega) hL (by decide +kernel) ?_
  refine g_call2 (Kc := K2) (hc := h2) (hc' := h2') (h' := mg m h1' h2') X O [.int (xs (i + 1)), .int (xs (i + 2)), .int (xs (i + 3)), .int (xs (i + 4))] (by decide +kernel) mlL_62 em rfl rfl (by decide) (Nat.le_of_ble_eq_true rfl) hcs (mg_w3 s2) (mg_w4 s2) (c11_why (n := 5000) E2 m (xs (i + 1)) (xs (i + 2)) (xs (i + 3)) (xs (i + 4)) h2 em e2) ?_
  exact g_icmp_eq_t (off := 570) (tgt := 1216) X (by decide +kernel) (by decide) rfl (kk h1' h2' v')
set_option maxRecDepth 20000 in
theorem lc_alone {Γ : CT} {sp : Sp} {zf : Nat} {hf : Hp} {cs : Nat × Nat} {b L x m i sz : Nat} {xs : Nat → Int32} {K1 K2 : Ly} {h1 h2 : Hp} (X : Ok Γ sp code "AskedNamesLaw" 4 (some .boolean) 16 (some (.int 1)) zf (fun _ => none) hf) (O : Ol Γ 600000 7302250) (S : Sx Γ b L xs) (hL : L ≤ 3584) (E : LE x m K1 K2) (hcs : cs.1 ≤ 600000 ∧ cs.2 ≤ 7302250) (hi : i + 7 ≤ L) (v : XX x h1 m h2) (kk : ∀ h1' h2', XX x h1' m h2' → Go Γ cs 1216 [(0, .ref b), (1, .ref x), (2, .ref m), (3, .int (nI i))] [] sz (mgK m K1 K2) (mg m h1' h2')) : Go Γ cs 651 [(0, .ref b), (1, .ref x), (2, .ref m), (3, .int (nI i))] [] sz (mgK m K1 K2) (mg m h1 h2) := by
  obtain ⟨E1, E2, kx, ku, ki, ex, em, s1, s2⟩ := E
  obtain ⟨w, h1', h2', e1, e2, v'⟩ := both_alone (K1 := K1) (K2 := K2) (n := 5000) (a1 := xs (i + 1)) (a2 := xs (i + 2)) (a3 := xs (i + 3)) (a4 := xs (i + 4)) (a5 := xs (i + 5)) kx (Nat.le_refl _) v
  refine g_aload_n (n := 1) X (by decide +kernel) 1 rfl ?_
  refine g_aload_n (n := 0) X (by decide +kernel) 0 rfl ?_
  refine g_iload_n (n := 3) X (by decide +kernel) 3 rfl ?_
  refine g_iconst (n := 1) (x := nI 1) X (by decide +kernel) (by decide) ?_
  refine g_iadd X (by decide +kernel) ?_
  refine g_sld (i := i + 1) X S (nI_add _ _) (by omega) hL (by decide +kernel) ?_
  refine g_aload_n (n := 0) X (by decide +kernel) 0 rfl ?_
  refine g_iload_n (n := 3) X (by decide +kernel) 3 rfl ?_
  refine g_iconst (n := 2) (x := nI 2) X (by decide +kernel) (by decide) ?_
  refine g_iadd X (by decide +kernel) ?_
  refine g_sld (i := i + 2) X S (nI_add _ _) (by omega) hL (by decide +kernel) ?_
  refine g_aload_n (n := 0) X (by decide +kernel) 0 rfl ?_
  refine g_iload_n (n := 3) X (by decide +kernel) 3 rfl ?_
  refine g_iconst (n := 3) (x := nI 3) X (by decide +kernel) (by decide) ?_
  refine g_iadd X (by decide +kernel) ?_
  refine g_sld (i := i + 3) X S (nI_add _ _) (by omega) hL (by decide +kernel) ?_
  refine g_aload_n (n := 0) X (by decide +kernel) 0 rfl ?_
  refine g_iload_n (n := 3) X (by decide +kernel) 3 rfl ?_
  refine g_iconst (n := 4) (x := nI 4) X (by decide +kernel) (by decide) ?_
  refine g_iadd X (by decide +kernel) ?_
  refine g_sld (i := i + 4) X S (nI_add _ _) (by omega) hL (by decide +kernel) ?_
  refine g_aload_n (n := 0) X (by decide +kernel) 0 rfl ?_
  refine g_iload_n (n := 3) X (by decide +kernel) 3 rfl ?_
  refine g_iconst (n := 5) (x := nI 5) X (by decide +kernel) (by decide) ?_
  refine g_iadd X (by decide +kernel) ?_
  refine g_sld (i := i + 5) X S (nI_add _ _) (by omega) hL (by decide +kernel) ?_
  refine g_call2 (Kc := K1) (hc := h1) (hc' := h1') (h' := mg m h1' h2) X O [.int (xs (i + 1)), .int (xs (i + 2)), .int (xs (i + 3)), .int (xs (i + 4)), .int (xs (i + 5))] (by decide +kernel) mlL_63 ex rfl rfl (by decide) (Nat.le_of_ble_eq_true rfl) hcs (mg_w1 s1) (mg_w2 s1) (c0_alone (n := 5000) E1 x (xs (i + 1)) (xs (i + 2)) (xs (i + 3)) (xs (i + 4)) (xs (i + 5)) h1 ex e1) ?_
  refine g_aload_n (n := 2) X (by decide +kernel) 2 rfl ?_
  refine g_aload_n (n := 0) X (by decide +kernel) 0 rfl ?_
  refine g_iload_n (n := 3) X (by decide +kernel) 3 rfl ?_
  refine g_iconst (n := 1) (x := nI 1) X (by decide +kernel) (by decide) ?_
  refine g_iadd X (by decide +kernel) ?_
  refine g_sld (i := i + 1) X S (nI_add _ _) (by omega) hL (by decide +kernel) ?_
  refine g_aload_n (n := 0) X (by decide +kernel) 0 rfl ?_
  refine g_iload_n (n := 3) X (by decide +kernel) 3 rfl ?_
  refine g_iconst (n := 2) (x := nI 2) X (by decide +kernel) (by decide) ?_
  refine g_iadd X (by decide +kernel) ?_
  refine g_sld (i := i + 2) X S (nI_add _ _) (by omega) hL (by decide +kernel) ?_
  refine g_aload_n (n := 0) X (by decide +kernel) 0 rfl ?_
  refine g_iload_n (n := 3) X (by decide +kernel) 3 rfl ?_
  refine g_iconst (n := 3) (x := nI 3) X (by decide +kernel) (by decide) ?_
  refine g_iadd X (by decide +kernel) ?_
  refine g_sld (i := i + 3) X S (nI_add _ _) (by omega) hL (by decide +kernel) ?_
  refine g_aload_n (n := 0) X (by decide +kernel) 0 rfl ?_
  refine g_iload_n (n := 3) X (by decide +kernel) 3 rfl ?_
  refine g_iconst (n := 4) (x := nI 4) X (by decide +kernel) (by decide) ?_
  refine g_iadd X (by decide +kernel) ?_
  refine g_sld (i := i + 4) X S (nI_add _ _) (by omega) hL (by decide +kernel) ?_
  refine g_aload_n (n := 0) X (by decide +kernel) 0 rfl ?_
  refine g_iload_n (n := 3) X (by decide +kernel) 3 rfl ?_
  refine g_iconst (n := 5) (x := nI 5) X (by decide +kernel) (by decide) ?_
  refine g_iadd X (by decide +kernel) ?_
  refine g_sld (i := i + 5) X S (nI_add _ _) (by omega) hL (by decide +kernel) ?_
  refine g_call2 (Kc := K2) (hc := h2) (hc' := h2') (h' := mg m h1' h2') X O [.int (xs (i + 1)), .int (xs (i + 2)), .int (xs (i + 3)), .int (xs (i + 4)), .int (xs (i + 5))] (by decide +kernel) mlL_66 em rfl rfl (by decide) (Nat.le_of_ble_eq_true rfl) hcs (mg_w3 s2) (mg_w4 s2) (c11_alone (n := 5000) E2 m (xs (i + 1)) (xs (i + 2)) (xs (i + 3)) (xs (i + 4)) (xs (i + 5)) h2 em e2) ?_
  exact g_icmp_eq_t (off := 507) (tgt := 1216) X (by decide +kernel) (by decide) rfl (kk h1' h2' v')
set_option maxRecDepth 20000 in
theorem lc_table {Γ : CT} {sp : Sp} {zf : Nat} {hf : Hp} {cs : Nat × Nat} {b L x m i sz : Nat} {xs : Nat → Int32} {K1 K2 : Ly} {h1 h2 : Hp} (X : Ok Γ sp code "AskedNamesLaw" 4 (some .boolean) 16 (some (.int 1)) zf (fun _ => none) hf) (O : Ol Γ 600000 7302250) (S : Sx Γ b L xs) (hL : L ≤ 3584) (E : LE x m K1 K2) (hcs : cs.1 ≤ 600000 ∧ cs.2 ≤ 7302250) (hi : i + 7 ≤ L) (v : XX x h1 m h2) (kk : ∀ h1' h2', XX x h1' m h2' → Go Γ cs 1216 [(0, .ref b), (1, .ref x), (2, .ref m), (3, .int (nI i))] [] sz (mgK m K1 K2) (mg m h1' h2')) : Go Γ cs 714 [(0, .ref b), (1, .ref x), (2, .ref m), (3, .int (nI i))] [] sz (mgK m K1 K2) (mg m h1 h2) := by
  obtain ⟨E1, E2, kx, ku, ki, ex, em, s1, s2⟩ := E
  obtain ⟨w, h2', e1, e2, v'⟩ := both_table (K1 := K1) (K2 := K2) (n := 5000) (a1 := xs (i + 1)) (a2 := xs (i + 2)) (a3 := xs (i + 3)) kx (Nat.le_refl _) v
  refine g_aload_n (n := 1) X (by decide +kernel) 1 rfl ?_
  refine g_aload_n (n := 0) X (by decide +kernel) 0 rfl ?_
  refine g_iload_n (n := 3) X (by decide +kernel) 3 rfl ?_
  refine g_iconst (n := 1) (x := nI 1) X (by decide +kernel) (by decide) ?_
  refine g_iadd X (by decide +kernel) ?_
  refine g_sld (i := i + 1) X S (nI_add _ _) (by omega) hL (by decide +kernel) ?_
  refine g_aload_n (n := 0) X (by decide +kernel) 0 rfl ?_
  refine g_iload_n (n := 3) X (by decide +kernel) 3 rfl ?_
  refine g_iconst (n := 2) (x := nI 2) X (by decide +kernel) (by decide) ?_
  refine g_iadd X (by decide +kernel) ?_
  refine g_sld (i := i + 2) X S (nI_add _ _) (by omega) hL (by decide +kernel) ?_
  refine g_aload_n (n := 0) X (by decide +kernel) 0 rfl ?_
  refine g_iload_n (n := 3) X (by decide +kernel) 3 rfl ?_
  refine g_iconst (n := 3) (x := nI 3) X (by decide +kernel) (by decide) ?_
  refine g_iadd X (by decide +kernel) ?_
  refine g_sld (i := i + 3) X S (nI_add _ _) (by omega) hL (by decide +kernel) ?_
  refine g_call2 (Kc := K1) (hc := h1) (hc' := h1) (h' := mg m h1 h2) X O [.int (xs (i + 1)), .int (xs (i + 2)), .int (xs (i + 3))] (by decide +kernel) mlL_67 ex rfl rfl (by decide) (Nat.le_of_ble_eq_true rfl) hcs (mg_w1 s1) (mg_w2 s1) (c0_table (n := 5000) E1 x (xs (i + 1)) (xs (i + 2)) (xs (i + 3)) h1 ex e1) ?_
  refine g_aload_n (n := 2) X (by decide +kernel) 2 rfl ?_
  refine g_aload_n (n := 0) X (by decide +kernel) 0 rfl ?_
  refine g_iload_n (n := 3) X (by decide +kernel) 3 rfl ?_
  refine g_iconst (n := 1) (x := nI 1) X (by decide +kernel) (by decide) ?_
  refine g_iadd X (by decide +kernel) ?_
  refine g_sld (i := i + 1) X S (nI_add _ _) (by omega) hL (by decide +kernel) ?_
  refine g_aload_n (n := 0) X (by decide +kernel) 0 rfl ?_
  refine g_iload_n (n := 3) X (by decide +kernel) 3 rfl ?_
  refine g_iconst (n := 2) (x := nI 2) X (by decide +kernel) (by decide) ?_
  refine g_iadd X (by decide +kernel) ?_
  refine g_sld (i := i + 2) X S (nI_add _ _) (by omega) hL (by decide +kernel) ?_
  refine g_aload_n (n := 0) X (by decide +kernel) 0 rfl ?_
  refine g_iload_n (n := 3) X (by decide +kernel) 3 rfl ?_
  refine g_iconst (n := 3) (x := nI 3) X (by decide +kernel) (by decide) ?_
  refine g_iadd X (by decide +kernel) ?_
  refine g_sld (i := i + 3) X S (nI_add _ _) (by omega) hL (by decide +kernel) ?_
  refine g_call2 (Kc := K2) (hc := h2) (hc' := h2') (h' := mg m h1 h2') X O [.int (xs (i + 1)), .int (xs (i + 2)), .int (xs (i + 3))] (by decide +kernel) mlL_70 em rfl rfl (by decide) (Nat.le_of_ble_eq_true rfl) hcs (mg_w3 s2) (mg_w4 s2) (c11_table (n := 5000) E2 m (xs (i + 1)) (xs (i + 2)) (xs (i + 3)) h2 em e2) ?_
  exact g_icmp_eq_t (off := 464) (tgt := 1216) X (by decide +kernel) (by decide) rfl (kk h1 h2' v')
set_option maxRecDepth 20000 in
theorem lc_ways {Γ : CT} {sp : Sp} {zf : Nat} {hf : Hp} {cs : Nat × Nat} {b L x m i sz : Nat} {xs : Nat → Int32} {K1 K2 : Ly} {h1 h2 : Hp} (X : Ok Γ sp code "AskedNamesLaw" 4 (some .boolean) 16 (some (.int 1)) zf (fun _ => none) hf) (O : Ol Γ 600000 7302250) (S : Sx Γ b L xs) (hL : L ≤ 3584) (E : LE x m K1 K2) (hcs : cs.1 ≤ 600000 ∧ cs.2 ≤ 7302250) (hi : i + 7 ≤ L) (v : XX x h1 m h2) (kk : ∀ h1' h2', XX x h1' m h2' → Go Γ cs 1216 [(0, .ref b), (1, .ref x), (2, .ref m), (3, .int (nI i))] [] sz (mgK m K1 K2) (mg m h1' h2')) : Go Γ cs 757 [(0, .ref b), (1, .ref x), (2, .ref m), (3, .int (nI i))] [] sz (mgK m K1 K2) (mg m h1 h2) := by
  obtain ⟨E1, E2, kx, ku, ki, ex, em, s1, s2⟩ := E
  by_cases hz : xs (i + 4) = 0
  · obtain ⟨w, h2', e1, e2, v'⟩ := both_ways (K1 := K1) (K2 := K2) (n := 5000) (a1 := xs (i + 1)) (a2 := xs (i + 2)) (a3 := xs (i + 3)) (a4 := 0) kx (Nat.le_refl _) v
    refine g_aload_n (n := 1) X (by decide +kernel) 1 rfl ?_
    refine g_aload_n (n := 0) X (by decide +kernel) 0 rfl ?_
    refine g_iload_n (n := 3) X (by decide +kernel) 3 rfl ?_
    refine g_iconst (n := 1) (x := nI 1) X (by decide +kernel) (by decide) ?_
    refine g_iadd X (by decide +kernel) ?_
    refine g_sld (i := i + 1) X S (nI_add _ _) (by omega) hL (by decide +kernel) ?_
    refine g_aload_n (n := 0) X (by decide +kernel) 0 rfl ?_
    refine g_iload_n (n := 3) X (by decide +kernel) 3 rfl ?_
    refine g_iconst (n := 2) (x := nI 2) X (by decide +kernel) (by decide) ?_
    refine g_iadd X (by decide +kernel) ?_
    refine g_sld (i := i + 2) X S (nI_add _ _) (by omega) hL (by decide +kernel) ?_
    refine g_aload_n (n := 0) X (by decide +kernel) 0 rfl ?_
    refine g_iload_n (n := 3) X (by decide +kernel) 3 rfl ?_
    refine g_iconst (n := 3) (x := nI 3) X (by decide +kernel) (by decide) ?_
    refine g_iadd X (by decide +kernel) ?_
    refine g_sld (i := i + 3) X S (nI_add _ _) (by omega) hL (by decide +kernel) ?_
    refine g_aload_n (n := 0) X (by decide +kernel) 0 rfl ?_
    refine g_iload_n (n := 3) X (by decide +kernel) 3 rfl ?_
    refine g_iconst (n := 4) (x := nI 4) X (by decide +kernel) (by decide) ?_
    refine g_iadd X (by decide +kernel) ?_
    refine g_sld (i := i + 4) X S (nI_add _ _) (by omega) hL (by decide +kernel) ?_
    refine g_if_eq_t (off := 7) (tgt := 785) X (by decide +kernel) (by decide) hz ?_
    refine g_iconst (n := 0) (x := (0 : Int32)) X (by decide +kernel) (by decide) ?_
    refine g_call2 (Kc := K1) (hc := h1) (hc' := h1) (h' := mg m h1 h2) X O [.int (xs (i + 1)), .int (xs (i + 2)), .int (xs (i + 3)), .int (0)] (by decide +kernel) mlL_71 ex rfl rfl (by decide) (Nat.le_of_ble_eq_true rfl) hcs (mg_w1 s1) (mg_w2 s1) (c0_ways (n := 5000) E1 x (xs (i + 1)) (xs (i + 2)) (xs (i + 3)) (0) h1 ex e1) ?_
    refine g_aload_n (n := 2) X (by decide +kernel) 2 rfl ?_
    refine g_aload_n (n := 0) X (by decide +kernel) 0 rfl ?_
    refine g_iload_n (n := 3) X (by decide +kernel) 3 rfl ?_
    refine g_iconst (n := 1) (x := nI 1) X (by decide +kernel) (by decide) ?_
    refine g_iadd X (by decide +kernel) ?_
    refine g_sld (i := i + 1) X S (nI_add _ _) (by omega) hL (by decide +kernel) ?_
    refine g_aload_n (n := 0) X (by decide +kernel) 0 rfl ?_
    refine g_iload_n (n := 3) X (by decide +kernel) 3 rfl ?_
    refine g_iconst (n := 2) (x := nI 2) X (by decide +kernel) (by decide) ?_
    refine g_iadd X (by decide +kernel) ?_
    refine g_sld (i := i + 2) X S (nI_add _ _) (by omega) hL (by decide +kernel) ?_
    refine g_aload_n (n := 0) X (by decide +kernel) 0 rfl ?_
    refine g_iload_n (n := 3) X (by decide +kernel) 3 rfl ?_
    refine g_iconst (n := 3) (x := nI 3) X (by decide +kernel) (by decide) ?_
    refine g_iadd X (by decide +kernel) ?_
    refine g_sld (i := i + 3) X S (nI_add _ _) (by omega) hL (by decide +kernel) ?_
    refine g_aload_n (n := 0) X (by decide +kernel) 0 rfl ?_
    refine g_iload_n (n := 3) X (by decide +kernel) 3 rfl ?_
    refine g_iconst (n := 4) (x := nI 4) X (by decide +kernel) (by decide) ?_
    refine g_iadd X (by decide +kernel) ?_
    refine g_sld (i := i + 4) X S (nI_add _ _) (by omega) hL (by decide +kernel) ?_
    refine g_if_eq_t (off := 7) (tgt := 817) X (by decide +kernel) (by decide) hz ?_
    refine g_iconst (n := 0) (x := (0 : Int32)) X (by decide +kernel) (by decide) ?_
    refine g_call2 (Kc := K2) (hc := h2) (hc' := h2') (h' := mg m h1 h2') X O [.int (xs (i + 1)), .int (xs (i + 2)), .int (xs (i + 3)), .int (0)] (by decide +kernel) mlL_75 em rfl rfl (by decide) (Nat.le_of_ble_eq_true rfl) hcs (mg_w3 s2) (mg_w4 s2) (c11_ways (n := 5000) E2 m (xs (i + 1)) (xs (i + 2)) (xs (i + 3)) (0) h2 em e2) ?_
    exact g_icmp_eq_t (off := 395) (tgt := 1216) X (by decide +kernel) (by decide) rfl (kk h1 h2' v')
  · obtain ⟨w, h2', e1, e2, v'⟩ := both_ways (K1 := K1) (K2 := K2) (n := 5000) (a1 := xs (i + 1)) (a2 := xs (i + 2)) (a3 := xs (i + 3)) (a4 := 1) kx (Nat.le_refl _) v
    refine g_aload_n (n := 1) X (by decide +kernel) 1 rfl ?_
    refine g_aload_n (n := 0) X (by decide +kernel) 0 rfl ?_
    refine g_iload_n (n := 3) X (by decide +kernel) 3 rfl ?_
    refine g_iconst (n := 1) (x := nI 1) X (by decide +kernel) (by decide) ?_
    refine g_iadd X (by decide +kernel) ?_
    refine g_sld (i := i + 1) X S (nI_add _ _) (by omega) hL (by decide +kernel) ?_
    refine g_aload_n (n := 0) X (by decide +kernel) 0 rfl ?_
    refine g_iload_n (n := 3) X (by decide +kernel) 3 rfl ?_
    refine g_iconst (n := 2) (x := nI 2) X (by decide +kernel) (by decide) ?_
    refine g_iadd X (by decide +kernel) ?_
    refine g_sld (i := i + 2) X S (nI_add _ _) (by omega) hL (by decide +kernel) ?_
    refine g_aload_n (n := 0) X (by decide +kernel) 0 rfl ?_
    refine g_iload_n (n := 3) X (by decide +kernel) 3 rfl ?_
    refine g_iconst (n := 3) (x := nI 3) X (by decide +kernel) (by decide) ?_
    refine g_iadd X (by decide +kernel) ?_
    refine g_sld (i := i + 3) X S (nI_add _ _) (by omega) hL (by decide +kernel) ?_
    refine g_aload_n (n := 0) X (by decide +kernel) 0 rfl ?_
    refine g_iload_n (n := 3) X (by decide +kernel) 3 rfl ?_
    refine g_iconst (n := 4) (x := nI 4) X (by decide +kernel) (by decide) ?_
    refine g_iadd X (by decide +kernel) ?_
    refine g_sld (i := i + 4) X S (nI_add _ _) (by omega) hL (by decide +kernel) ?_
    refine g_if_eq_f (off := 7) (tgt := 785) X (by decide +kernel) (by decide) hz ?_
    refine g_iconst (n := 1) (x := (1 : Int32)) X (by decide +kernel) (by decide) ?_
    refine g_goto (off := 4) (tgt := 786) X (by decide +kernel) (by decide) ?_
    refine g_call2 (Kc := K1) (hc := h1) (hc' := h1) (h' := mg m h1 h2) X O [.int (xs (i + 1)), .int (xs (i + 2)), .int (xs (i + 3)), .int (1)] (by decide +kernel) mlL_71 ex rfl rfl (by decide) (Nat.le_of_ble_eq_true rfl) hcs (mg_w1 s1) (mg_w2 s1) (c0_ways (n := 5000) E1 x (xs (i + 1)) (xs (i + 2)) (xs (i + 3)) (1) h1 ex e1) ?_
    refine g_aload_n (n := 2) X (by decide +kernel) 2 rfl ?_
    refine g_aload_n (n := 0) X (by decide +kernel) 0 rfl ?_
    refine g_iload_n (n := 3) X (by decide +kernel) 3 rfl ?_
    refine g_iconst (n := 1) (x := nI 1) X (by decide +kernel) (by decide) ?_
    refine g_iadd X (by decide +kernel) ?_
    refine g_sld (i := i + 1) X S (nI_add _ _) (by omega) hL (by decide +kernel) ?_
    refine g_aload_n (n := 0) X (by decide +kernel) 0 rfl ?_
    refine g_iload_n (n := 3) X (by decide +kernel) 3 rfl ?_
    refine g_iconst (n := 2) (x := nI 2) X (by decide +kernel) (by decide) ?_
    refine g_iadd X (by decide +kernel) ?_
    refine g_sld (i := i + 2) X S (nI_add _ _) (by omega) hL (by decide +kernel) ?_
    refine g_aload_n (n := 0) X (by decide +kernel) 0 rfl ?_
    refine g_iload_n (n := 3) X (by decide +kernel) 3 rfl ?_
    refine g_iconst (n := 3) (x := nI 3) X (by decide +kernel) (by decide) ?_
    refine g_iadd X (by decide +kernel) ?_
    refine g_sld (i := i + 3) X S (nI_add _ _) (by omega) hL (by decide +kernel) ?_
    refine g_aload_n (n := 0) X (by decide +kernel) 0 rfl ?_
    refine g_iload_n (n := 3) X (by decide +kernel) 3 rfl ?_
    refine g_iconst (n := 4) (x := nI 4) X (by decide +kernel) (by decide) ?_
    refine g_iadd X (by decide +kernel) ?_
    refine g_sld (i := i + 4) X S (nI_add _ _) (by omega) hL (by decide +kernel) ?_
    refine g_if_eq_f (off := 7) (tgt := 817) X (by decide +kernel) (by decide) hz ?_
    refine g_iconst (n := 1) (x := (1 : Int32)) X (by decide +kernel) (by decide) ?_
    refine g_goto (off := 4) (tgt := 818) X (by decide +kernel) (by decide) ?_
    refine g_call2 (Kc := K2) (hc := h2) (hc' := h2') (h' := mg m h1 h2') X O [.int (xs (i + 1)), .int (xs (i + 2)), .int (xs (i + 3)), .int (1)] (by decide +kernel) mlL_75 em rfl rfl (by decide) (Nat.le_of_ble_eq_true rfl) hcs (mg_w3 s2) (mg_w4 s2) (c11_ways (n := 5000) E2 m (xs (i + 1)) (xs (i + 2)) (xs (i + 3)) (1) h2 em e2) ?_
    exact g_icmp_eq_t (off := 395) (tgt := 1216) X (by decide +kernel) (by decide) rfl (kk h1 h2' v')
set_option maxRecDepth 20000 in
theorem lc_trail {Γ : CT} {sp : Sp} {zf : Nat} {hf : Hp} {cs : Nat × Nat} {b L x m i sz : Nat} {xs : Nat → Int32} {K1 K2 : Ly} {h1 h2 : Hp} (X : Ok Γ sp code "AskedNamesLaw" 4 (some .boolean) 16 (some (.int 1)) zf (fun _ => none) hf) (O : Ol Γ 600000 7302250) (S : Sx Γ b L xs) (hL : L ≤ 3584) (E : LE x m K1 K2) (hcs : cs.1 ≤ 600000 ∧ cs.2 ≤ 7302250) (hi : i + 7 ≤ L) (v : XX x h1 m h2) (kk : ∀ h1' h2', XX x h1' m h2' → Go Γ cs 1216 [(0, .ref b), (1, .ref x), (2, .ref m), (3, .int (nI i))] [] sz (mgK m K1 K2) (mg m h1' h2')) : Go Γ cs 826 [(0, .ref b), (1, .ref x), (2, .ref m), (3, .int (nI i))] [] sz (mgK m K1 K2) (mg m h1 h2) := by
  obtain ⟨E1, E2, kx, ku, ki, ex, em, s1, s2⟩ := E
  obtain ⟨w, h1', h2', e1, e2, v'⟩ := both_trail (K1 := K1) (K2 := K2) (n := 5000) (a1 := xs (i + 1)) (a2 := xs (i + 2)) (a3 := xs (i + 3)) (a4 := xs (i + 4)) kx (Nat.le_refl _) v
  refine g_aload_n (n := 1) X (by decide +kernel) 1 rfl ?_
  refine g_aload_n (n := 0) X (by decide +kernel) 0 rfl ?_
  refine g_iload_n (n := 3) X (by decide +kernel) 3 rfl ?_
  refine g_iconst (n := 1) (x := nI 1) X (by decide +kernel) (by decide) ?_
  refine g_iadd X (by decide +kernel) ?_
  refine g_sld (i := i + 1) X S (nI_add _ _) (by omega) hL (by decide +kernel) ?_
  refine g_aload_n (n := 0) X (by decide +kernel) 0 rfl ?_
  refine g_iload_n (n := 3) X (by decide +kernel) 3 rfl ?_
  refine g_iconst (n := 2) (x := nI 2) X (by decide +kernel) (by decide) ?_
  refine g_iadd X (by decide +kernel) ?_
  refine g_sld (i := i + 2) X S (nI_add _ _) (by omega) hL (by decide +kernel) ?_
  refine g_aload_n (n := 0) X (by decide +kernel) 0 rfl ?_
  refine g_iload_n (n := 3) X (by decide +kernel) 3 rfl ?_
  refine g_iconst (n := 3) (x := nI 3) X (by decide +kernel) (by decide) ?_
  refine g_iadd X (by decide +kernel) ?_
  refine g_sld (i := i + 3) X S (nI_add _ _) (by omega) hL (by decide +kernel) ?_
  refine g_aload_n (n := 0) X (by decide +kernel) 0 rfl ?_
  refine g_iload_n (n := 3) X (by decide +kernel) 3 rfl ?_
  refine g_iconst (n := 4) (x := nI 4) X (by decide +kernel) (by decide) ?_
  refine g_iadd X (by decide +kernel) ?_
  refine g_sld (i := i + 4) X S (nI_add _ _) (by omega) hL (by decide +kernel) ?_
  refine g_call2 (Kc := K1) (hc := h1) (hc' := h1') (h' := mg m h1' h2) X O [.int (xs (i + 1)), .int (xs (i + 2)), .int (xs (i + 3)), .int (xs (i + 4))] (by decide +kernel) mlL_76 ex rfl rfl (by decide) (Nat.le_of_ble_eq_true rfl) hcs (mg_w1 s1) (mg_w2 s1) (c0_trail (n := 5000) E1 x (xs (i + 1)) (xs (i + 2)) (xs (i + 3)) (xs (i + 4)) h1 ex e1) ?_
  refine g_aload_n (n := 2) X (by decide +kernel) 2 rfl ?_
  refine g_aload_n (n := 0) X (by decide +kernel) 0 rfl ?_
  refine g_iload_n (n := 3) X (by decide +kernel) 3 rfl ?_
  refine g_iconst (n := 1) (x := nI 1) X (by decide +kernel) (by decide) ?_
  refine g_iadd X (by decide +kernel) ?_
  refine g_sld (i := i + 1) X S (nI_add _ _) (by omega) hL (by decide +kernel) ?_
  refine g_aload_n (n := 0) X (by decide +kernel) 0 rfl ?_
  refine g_iload_n (n := 3) X (by decide +kernel) 3 rfl ?_
  refine g_iconst (n := 2) (x := nI 2) X (by decide +kernel) (by decide) ?_
  refine g_iadd X (by decide +kernel) ?_
  refine g_sld (i := i + 2) X S (nI_add _ _) (by omega) hL (by decide +kernel) ?_
  refine g_aload_n (n := 0) X (by decide +kernel) 0 rfl ?_
  refine g_iload_n (n := 3) X (by decide +kernel) 3 rfl ?_
  refine g_iconst (n := 3) (x := nI 3) X (by decide +kernel) (by decide) ?_
  refine g_iadd X (by decide +kernel) ?_
  refine g_sld (i := i + 3) X S (nI_add _ _) (by omega) hL (by decide +kernel) ?_
  refine g_aload_n (n := 0) X (by decide +kernel) 0 rfl ?_
  refine g_iload_n (n := 3) X (by decide +kernel) 3 rfl ?_
  refine g_iconst (n := 4) (x := nI 4) X (by decide +kernel) (by decide) ?_
  refine g_iadd X (by decide +kernel) ?_
  refine g_sld (i := i + 4) X S (nI_add _ _) (by omega) hL (by decide +kernel) ?_
  refine g_call2 (Kc := K2) (hc := h2) (hc' := h2') (h' := mg m h1' h2') X O [.int (xs (i + 1)), .int (xs (i + 2)), .int (xs (i + 3)), .int (xs (i + 4))] (by decide +kernel) mlL_79 em rfl rfl (by decide) (Nat.le_of_ble_eq_true rfl) hcs (mg_w3 s2) (mg_w4 s2) (c11_trail (n := 5000) E2 m (xs (i + 1)) (xs (i + 2)) (xs (i + 3)) (xs (i + 4)) h2 em e2) ?_
  exact g_icmp_eq_t (off := 342) (tgt := 1216) X (by decide +kernel) (by decide) rfl (kk h1' h2' v')
set_option maxRecDepth 20000 in
theorem lc_far {Γ : CT} {sp : Sp} {zf : Nat} {hf : Hp} {cs : Nat × Nat} {b L x m i sz : Nat} {xs : Nat → Int32} {K1 K2 : Ly} {h1 h2 : Hp} (X : Ok Γ sp code "AskedNamesLaw" 4 (some .boolean) 16 (some (.int 1)) zf (fun _ => none) hf) (O : Ol Γ 600000 7302250) (S : Sx Γ b L xs) (hL : L ≤ 3584) (E : LE x m K1 K2) (hcs : cs.1 ≤ 600000 ∧ cs.2 ≤ 7302250) (hi : i + 7 ≤ L) (v : XX x h1 m h2) (kk : ∀ h1' h2', XX x h1' m h2' → Go Γ cs 1216 [(0, .ref b), (1, .ref x), (2, .ref m), (3, .int (nI i))] [] sz (mgK m K1 K2) (mg m h1' h2')) : Go Γ cs 879 [(0, .ref b), (1, .ref x), (2, .ref m), (3, .int (nI i))] [] sz (mgK m K1 K2) (mg m h1 h2) := by
  obtain ⟨E1, E2, kx, ku, ki, ex, em, s1, s2⟩ := E
  obtain ⟨w, h1', h2', e1, e2, v'⟩ := both_far (K1 := K1) (K2 := K2) (n := 5000) (a1 := xs (i + 1)) (a2 := xs (i + 2)) (a3 := xs (i + 3)) kx (Nat.le_refl _) v
  refine g_aload_n (n := 1) X (by decide +kernel) 1 rfl ?_
  refine g_aload_n (n := 0) X (by decide +kernel) 0 rfl ?_
  refine g_iload_n (n := 3) X (by decide +kernel) 3 rfl ?_
  refine g_iconst (n := 1) (x := nI 1) X (by decide +kernel) (by decide) ?_
  refine g_iadd X (by decide +kernel) ?_
  refine g_sld (i := i + 1) X S (nI_add _ _) (by omega) hL (by decide +kernel) ?_
  refine g_aload_n (n := 0) X (by decide +kernel) 0 rfl ?_
  refine g_iload_n (n := 3) X (by decide +kernel) 3 rfl ?_
  refine g_iconst (n := 2) (x := nI 2) X (by decide +kernel) (by decide) ?_
  refine g_iadd X (by decide +kernel) ?_
  refine g_sld (i := i + 2) X S (nI_add _ _) (by omega) hL (by decide +kernel) ?_
  refine g_aload_n (n := 0) X (by decide +kernel) 0 rfl ?_
  refine g_iload_n (n := 3) X (by decide +kernel) 3 rfl ?_
  refine g_iconst (n := 3) (x := nI 3) X (by decide +kernel) (by decide) ?_
  refine g_iadd X (by decide +kernel) ?_
  refine g_sld (i := i + 3) X S (nI_add _ _) (by omega) hL (by decide +kernel) ?_
  refine g_call2 (Kc := K1) (hc := h1) (hc' := h1') (h' := mg m h1' h2) X O [.int (xs (i + 1)), .int (xs (i + 2)), .int (xs (i + 3))] (by decide +kernel) mlL_80 ex rfl rfl (by decide) (Nat.le_of_ble_eq_true rfl) hcs (mg_w1 s1) (mg_w2 s1) (c0_far (n := 5000) E1 x (xs (i + 1)) (xs (i + 2)) (xs (i + 3)) h1 ex e1) ?_
  refine g_aload_n (n := 2) X (by decide +kernel) 2 rfl ?_
  refine g_aload_n (n := 0) X (by decide +kernel) 0 rfl ?_
  refine g_iload_n (n := 3) X (by decide +kernel) 3 rfl ?_
  refine g_iconst (n := 1) (x := nI 1) X (by decide +kernel) (by decide) ?_
  refine g_iadd X (by decide +kernel) ?_
  refine g_sld (i := i + 1) X S (nI_add _ _) (by omega) hL (by decide +kernel) ?_
  refine g_aload_n (n := 0) X (by decide +kernel) 0 rfl ?_
  refine g_iload_n (n := 3) X (by decide +kernel) 3 rfl ?_
  refine g_iconst (n := 2) (x := nI 2) X (by decide +kernel) (by decide) ?_
  refine g_iadd X (by decide +kernel) ?_
  refine g_sld (i := i + 2) X S (nI_add _ _) (by omega) hL (by decide +kernel) ?_
  refine g_aload_n (n := 0) X (by decide +kernel) 0 rfl ?_
  refine g_iload_n (n := 3) X (by decide +kernel) 3 rfl ?_
  refine g_iconst (n := 3) (x := nI 3) X (by decide +kernel) (by decide) ?_
  refine g_iadd X (by decide +kernel) ?_
  refine g_sld (i := i + 3) X S (nI_add _ _) (by omega) hL (by decide +kernel) ?_
  refine g_call2 (Kc := K2) (hc := h2) (hc' := h2') (h' := mg m h1' h2') X O [.int (xs (i + 1)), .int (xs (i + 2)), .int (xs (i + 3))] (by decide +kernel) mlL_83 em rfl rfl (by decide) (Nat.le_of_ble_eq_true rfl) hcs (mg_w3 s2) (mg_w4 s2) (c11_far (n := 5000) E2 m (xs (i + 1)) (xs (i + 2)) (xs (i + 3)) h2 em e2) ?_
  exact g_icmp_eq_t (off := 299) (tgt := 1216) X (by decide +kernel) (by decide) rfl (kk h1' h2' v')
