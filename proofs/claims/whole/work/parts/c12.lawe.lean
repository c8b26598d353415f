set_option maxRecDepth 20000 in
theorem lc_fact {Γ : CT} {sp : Sp} {zf : Nat} {hf : Hp} {cs : Nat × Nat} {b L x m i sz : Nat} {xs : Nat → Int32} {K1 K2 : Ly} {h1 h2 : Hp} (X : Ok Γ sp code "AskedNamesLaw" 4 (some .boolean) 16 (some (.int 1)) zf (fun _ => none) hf) (O : Ol Γ 600000 7302250) (S : Sx Γ b L xs) (hL : L ≤ 3584) (E : LE x m K1 K2) (hcs : cs.1 ≤ 600000 ∧ cs.2 ≤ 7302250) (hi : i + 7 ≤ L) (v : XX x h1 m h2) (kk : ∀ h1' h2', XX x h1' m h2' → Go Γ cs 1216 [(0, .ref b), (1, .ref x), (2, .ref m), (3, .int (nI i))] [] sz (mgK m K1 K2) (mg m h1' h2')) : Go Γ cs 922 [(0, .ref b), (1, .ref x), (2, .ref m), (3, .int (nI i))] [] sz (mgK m K1 K2) (mg m h1 h2) := by
  obtain ⟨E1, E2, kx, ku, ki, ex, em, s1, s2⟩ := E
  obtain ⟨w, h2', e1, e2, v'⟩ := both_fact (K1 := K1) (K2 := K2) (n := 5000) (a1 := xs (i + 1)) (a2 := xs (i + 2)) (a3 := xs (i + 3)) kx v
  refine g_aload_n (n := 1) X (by decide +kernel) 1 rfl ?_
  refine g_aload_n (n := 0) X (by decide +kernel) 0 rfl ?_
  refine g_iload_n (n := 3) X (by decide +kernel) 3 rfl ?_
  refine g_iconst (n := 1) (x := nI 1) X (by decide +kernel) (by decide) ?_
  refine g_iadd X (by decide +kernel) ?_
  refine g_sld (i := i + 1) X S (nI_add _ _) (by omega) hL (by decide +kernel) ?_
  refine g_aload_n (n := 0) X (by decide +kernel) 0 rfl ?_
  refine g_iload_n (n := 3) X (by decide +kernel) 3 rfl ?_
  refine g_iconst (n := 2) (x := nI 2) X (by decide +kernel) (by decide) ?_
  refine g_iadd X (by decide +kernel) ?_
  refine g_sld (i := i + 2) X S (nI_add _ _) (by omega) hL (by decide +kernel) ?_
  refine g_aload_n (n := 0) X (by decide +kernel) 0 rfl ?_
  refine g_iload_n (n := 3) X (by decide +kernel) 3 rfl ?_
  refine g_iconst (n := 3) (x := nI 3) X (by decide +kernel) (by decide) ?_
  refine g_iadd X (by decide +kernel) ?_
  refine g_sld (i := i + 3) X S (nI_add _ _) (by omega) hL (by decide +kernel) ?_
  refine g_call2 (Kc := K1) (hc := h1) (hc' := h1) (h' := mg m h1 h2) X O [.int (xs (i + 1)), .int (xs (i + 2)), .int (xs (i + 3))] (by decide +kernel) mlL_84 ex rfl rfl (by decide) (Nat.le_of_ble_eq_true rfl) hcs (mg_w1 s1) (mg_w2 s1) (c0_fact (n := 5000) E1 x (xs (i + 1)) (xs (i + 2)) (xs (i + 3)) h1 ex e1) ?_
  refine g_aload_n (n := 2) X (by decide +kernel) 2 rfl ?_
  refine g_aload_n (n := 0) X (by decide +kernel) 0 rfl ?_
  refine g_iload_n (n := 3) X (by decide +kernel) 3 rfl ?_
  refine g_iconst (n := 1) (x := nI 1) X (by decide +kernel) (by decide) ?_
  refine g_iadd X (by decide +kernel) ?_
  refine g_sld (i := i + 1) X S (nI_add _ _) (by omega) hL (by decide +kernel) ?_
  refine g_aload_n (n := 0) X (by decide +kernel) 0 rfl ?_
  refine g_iload_n (n := 3) X (by decide +kernel) 3 rfl ?_
  refine g_iconst (n := 2) (x := nI 2) X (by decide +kernel) (by decide) ?_
  refine g_iadd X (by decide +kernel) ?_
  refine g_sld (i := i + 2) X S (nI_add _ _) (by omega) hL (by decide +kernel) ?_
  refine g_aload_n (n := 0) X (by decide +kernel) 0 rfl ?_
  refine g_iload_n (n := 3) X (by decide +kernel) 3 rfl ?_
  refine g_iconst (n := 3) (x := nI 3) X (by decide +kernel) (by decide) ?_
  refine g_iadd X (by decide +kernel) ?_
  refine g_sld (i := i + 3) X S (nI_add _ _) (by omega) hL (by decide +kernel) ?_
  refine g_call2 (Kc := K2) (hc := h2) (hc' := h2') (h' := mg m h1 h2') X O [.int (xs (i + 1)), .int (xs (i + 2)), .int (xs (i + 3))] (by decide +kernel) mlL_87 em rfl rfl (by decide) (Nat.le_of_ble_eq_true rfl) hcs (mg_w3 s2) (mg_w4 s2) (c11_fact (n := 5000) E2 m (xs (i + 1)) (xs (i + 2)) (xs (i + 3)) h2 em e2) ?_
  exact g_icmp_eq_t (off := 256) (tgt := 1216) X (by decide +kernel) (by decide) rfl (kk h1 h2' v')
set_option maxRecDepth 20000 in
theorem lc_fits {Γ : CT} {sp : Sp} {zf : Nat} {hf : Hp} {cs : Nat × Nat} {b L x m i sz : Nat} {xs : Nat → Int32} {K1 K2 : Ly} {h1 h2 : Hp} (X : Ok Γ sp code "AskedNamesLaw" 4 (some .boolean) 16 (some (.int 1)) zf (fun _ => none) hf) (O : Ol Γ 600000 7302250) (S : Sx Γ b L xs) (hL : L ≤ 3584) (E : LE x m K1 K2) (hcs : cs.1 ≤ 600000 ∧ cs.2 ≤ 7302250) (hi : i + 7 ≤ L) (v : XX x h1 m h2) (kk : ∀ h1' h2', XX x h1' m h2' → Go Γ cs 1216 [(0, .ref b), (1, .ref x), (2, .ref m), (3, .int (nI i))] [] sz (mgK m K1 K2) (mg m h1' h2')) : Go Γ cs 965 [(0, .ref b), (1, .ref x), (2, .ref m), (3, .int (nI i))] [] sz (mgK m K1 K2) (mg m h1 h2) := by
  obtain ⟨E1, E2, kx, ku, ki, ex, em, s1, s2⟩ := E
  obtain ⟨w, h1', h2', e1, e2, v'⟩ := both_fits (K1 := K1) (K2 := K2) (n := 5000) (a1 := xs (i + 1)) (a2 := xs (i + 2)) (a3 := xs (i + 3)) (a4 := xs (i + 4)) kx (Nat.le_refl _) v
  refine g_aload_n (n := 1) X (by decide +kernel) 1 rfl ?_
  refine g_aload_n (n := 0) X (by decide +kernel) 0 rfl ?_
  refine g_iload_n (n := 3) X (by decide +kernel) 3 rfl ?_
  refine g_iconst (n := 1) (x := nI 1) X (by decide +kernel) (by decide) ?_
  refine g_iadd X (by decide +kernel) ?_
  refine g_sld (i := i + 1) X S (nI_add _ _) (by omega) hL (by decide +kernel) ?_
  refine g_aload_n (n := 0) X (by decide +kernel) 0 rfl ?_
  refine g_iload_n (n := 3) X (by decide +kernel) 3 rfl ?_
  refine g_iconst (n := 2) (x := nI 2) X (by decide +kernel) (by decide) ?_
  refine g_iadd X (by decide +kernel) ?_
  refine g_sld (i := i + 2) X S (nI_add _ _) (by omega) hL (by decide +kernel) ?_
  refine g_aload_n (n := 0) X (by decide +kernel) 0 rfl ?_
  refine g_iload_n (n := 3) X (by decide +kernel) 3 rfl ?_
  refine g_iconst (n := 3) (x := nI 3) X (by decide +kernel) (by decide) ?_
  refine g_iadd X (by decide +kernel) ?_
  refine g_sld (i := i + 3) X S (nI_add _ _) (by omega) hL (by decide +kernel) ?_
  refine g_aload_n (n := 0) X (by decide +kernel) 0 rfl ?_
  refine g_iload_n (n := 3) X (by decide +kernel) 3 rfl ?_
  refine g_iconst (n := 4) (x := nI 4) X (by decide +kernel) (by decide) ?_
  refine g_iadd X (by decide +kernel) ?_
  refine g_sld (i := i + 4) X S (nI_add _ _) (by omega) hL (by decide +kernel) ?_
  refine g_call2 (Kc := K1) (hc := h1) (hc' := h1') (h' := mg m h1' h2) X O [.int (xs (i + 1)), .int (xs (i + 2)), .int (xs (i + 3)), .int (xs (i + 4))] (by decide +kernel) mlL_88 ex rfl rfl (by decide) (Nat.le_of_ble_eq_true rfl) hcs (mg_w1 s1) (mg_w2 s1) (c0_fits (n := 5000) E1 x (xs (i + 1)) (xs (i + 2)) (xs (i + 3)) (xs (i + 4)) h1 ex e1) ?_
  refine g_aload_n (n := 2) X (by decide +kernel) 2 rfl ?_
  refine g_aload_n (n := 0) X (by decide +kernel) 0 rfl ?_
  refine g_iload_n (n := 3) X (by decide +kernel) 3 rfl ?_
  refine g_iconst (n := 1) (x := nI 1) X (by decide +kernel) (by decide) ?_
  refine g_iadd X (by decide +kernel) ?_
  refine g_sld (i := i + 1) X S (nI_add _ _) (by omega) hL (by decide +kernel) ?_
  refine g_aload_n (n := 0) X (by decide +kernel) 0 rfl ?_
  refine g_iload_n (n := 3) X (by decide +kernel) 3 rfl ?_
  refine g_iconst (n := 2) (x := nI 2) X (by decide +kernel) (by decide) ?_
  refine g_iadd X (by decide +kernel) ?_
  refine g_sld (i := i + 2) X S (nI_add _ _) (by omega) hL (by decide +kernel) ?_
  refine g_aload_n (n := 0) X (by decide +kernel) 0 rfl ?_
  refine g_iload_n (n := 3) X (by decide +kernel) 3 rfl ?_
  refine g_iconst (n := 3) (x := nI 3) X (by decide +kernel) (by decide) ?_
  refine g_iadd X (by decide +kernel) ?_
  refine g_sld (i := i + 3) X S (nI_add _ _) (by omega) hL (by decide +kernel) ?_
  refine g_aload_n (n := 0) X (by decide +kernel) 0 rfl ?_
  refine g_iload_n (n := 3) X (by decide +kernel) 3 rfl ?_
  refine g_iconst (n := 4) (x := nI 4) X (by decide +kernel) (by decide) ?_
  refine g_iadd X (by decide +kernel) ?_
  refine g_sld (i := i + 4) X S (nI_add _ _) (by omega) hL (by decide +kernel) ?_
  refine g_call2 (Kc := K2) (hc := h2) (hc' := h2') (h' := mg m h1' h2') X O [.int (xs (i + 1)), .int (xs (i + 2)), .int (xs (i + 3)), .int (xs (i + 4))] (by decide +kernel) mlL_91 em rfl rfl (by decide) (Nat.le_of_ble_eq_true rfl) hcs (mg_w3 s2) (mg_w4 s2) (c11_fits (n := 5000) E2 m (xs (i + 1)) (xs (i + 2)) (xs (i + 3)) (xs (i + 4)) h2 em e2) ?_
  exact g_icmp_eq_t (off := 203) (tgt := 1216) X (by decide +kernel) (by decide) rfl (kk h1' h2' v')
set_option maxRecDepth 20000 in
theorem lc_drawn {Γ : CT} {sp : Sp} {zf : Nat} {hf : Hp} {cs : Nat × Nat} {b L x m i sz : Nat} {xs : Nat → Int32} {K1 K2 : Ly} {h1 h2 : Hp} (X : Ok Γ sp code "AskedNamesLaw" 4 (some .boolean) 16 (some (.int 1)) zf (fun _ => none) hf) (O : Ol Γ 600000 7302250) (S : Sx Γ b L xs) (hL : L ≤ 3584) (E : LE x m K1 K2) (hcs : cs.1 ≤ 600000 ∧ cs.2 ≤ 7302250) (hi : i + 7 ≤ L) (v : XX x h1 m h2) (kk : ∀ h1' h2', XX x h1' m h2' → Go Γ cs 1216 [(0, .ref b), (1, .ref x), (2, .ref m), (3, .int (nI i))] [] sz (mgK m K1 K2) (mg m h1' h2')) : Go Γ cs 1018 [(0, .ref b), (1, .ref x), (2, .ref m), (3, .int (nI i))] [] sz (mgK m K1 K2) (mg m h1 h2) := by
  obtain ⟨E1, E2, kx, ku, ki, ex, em, s1, s2⟩ := E
  obtain ⟨w, h1', h2', e1, e2, v'⟩ := both_drawn (K1 := K1) (K2 := K2) (n := 5000) (a1 := xs (i + 1)) (a2 := xs (i + 2)) (a3 := xs (i + 3)) (a4 := xs (i + 4)) kx (Nat.le_refl _) v
  refine g_aload_n (n := 1) X (by decide +kernel) 1 rfl ?_
  refine g_aload_n (n := 0) X (by decide +kernel) 0 rfl ?_
  refine g_iload_n (n := 3) X (by decide +kernel) 3 rfl ?_
  refine g_iconst (n := 1) (x := nI 1) X (by decide +kernel) (by decide) ?_
  refine g_iadd X (by decide +kernel) ?_
  refine g_sld (i := i + 1) X S (nI_add _ _) (by omega) hL (by decide +kernel) ?_
  refine g_aload_n (n := 0) X (by decide +kernel) 0 rfl ?_
  refine g_iload_n (n := 3) X (by decide +kernel) 3 rfl ?_
  refine g_iconst (n := 2) (x := nI 2) X (by decide +kernel) (by decide) ?_
  refine g_iadd X (by decide +kernel) ?_
  refine g_sld (i := i + 2) X S (nI_add _ _) (by omega) hL (by decide +kernel) ?_
  refine g_aload_n (n := 0) X (by decide +kernel) 0 rfl ?_
  refine g_iload_n (n := 3) X (by decide +kernel) 3 rfl ?_
  refine g_iconst (n := 3) (x := nI 3) X (by decide +kernel) (by decide) ?_
  refine g_iadd X (by decide +kernel) ?_
  refine g_sld (i := i + 3) X S (nI_add _ _) (by omega) hL (by decide +kernel) ?_
  refine g_aload_n (n := 0) X (by decide +kernel) 0 rfl ?_
  refine g_iload_n (n := 3) X (by decide +kernel) 3 rfl ?_
  refine g_iconst (n := 4) (x := nI 4) X (by decide +kernel) (by decide) ?_
  refine g_iadd X (by decide +kernel) ?_
  refine g_sld (i := i + 4) X S (nI_add _ _) (by omega) hL (by decide +kernel) ?_
  refine g_call2 (Kc := K1) (hc := h1) (hc' := h1') (h' := mg m h1' h2) X O [.int (xs (i + 1)), .int (xs (i + 2)), .int (xs (i + 3)), .int (xs (i + 4))] (by decide +kernel) mlL_92 ex rfl rfl (by decide) (Nat.le_of_ble_eq_true rfl) hcs (mg_w1 s1) (mg_w2 s1) (c0_drawn (n := 5000) E1 x (xs (i + 1)) (xs (i + 2)) (xs (i + 3)) (xs (i + 4)) h1 ex e1) ?_
  refine g_aload_n (n := 2) X (by decide +kernel) 2 rfl ?_
  refine g_aload_n (n := 0) X (by decide +kernel) 0 rfl ?_
  refine g_iload_n (n := 3) X (by decide +kernel) 3 rfl ?_
  refine g_iconst (n := 1) (x := nI 1) X (by decide +kernel) (by decide) ?_
  refine g_iadd X (by decide +kernel) ?_
  refine g_sld (i := i + 1) X S (nI_add _ _) (by omega) hL (by decide +kernel) ?_
  refine g_aload_n (n := 0) X (by decide +kernel) 0 rfl ?_
  refine g_iload_n (n := 3) X (by decide +kernel) 3 rfl ?_
  refine g_iconst (n := 2) (x := nI 2) X (by decide +kernel) (by decide) ?_
  refine g_iadd X (by decide +kernel) ?_
  refine g_sld (i := i + 2) X S (nI_add _ _) (by omega) hL (by decide +kernel) ?_
  refine g_aload_n (n := 0) X (by decide +kernel) 0 rfl ?_
  refine g_iload_n (n := 3) X (by decide +kernel) 3 rfl ?_
  refine g_iconst (n := 3) (x := nI 3) X (by decide +kernel) (by decide) ?_
  refine g_iadd X (by decide +kernel) ?_
  refine g_sld (i := i + 3) X S (nI_add _ _) (by omega) hL (by decide +kernel) ?_
  refine g_aload_n (n := 0) X (by decide +kernel) 0 rfl ?_
  refine g_iload_n (n := 3) X (by decide +kernel) 3 rfl ?_
  refine g_iconst (n := 4) (x := nI 4) X (by decide +kernel) (by decide) ?_
  refine g_iadd X (by decide +kernel) ?_
  refine g_sld (i := i + 4) X S (nI_add _ _) (by omega) hL (by decide +kernel) ?_
  refine g_call2 (Kc := K2) (hc := h2) (hc' := h2') (h' := mg m h1' h2') X O [.int (xs (i + 1)), .int (xs (i + 2)), .int (xs (i + 3)), .int (xs (i + 4))] (by decide +kernel) mlL_95 em rfl rfl (by decide) (Nat.le_of_ble_eq_true rfl) hcs (mg_w3 s2) (mg_w4 s2) (c11_drawn (n := 5000) E2 m (xs (i + 1)) (xs (i + 2)) (xs (i + 3)) (xs (i + 4)) h2 em e2) ?_
  exact g_icmp_eq_t (off := 150) (tgt := 1216) X (by decide +kernel) (by decide) rfl (kk h1' h2' v')
set_option maxRecDepth 20000 in
theorem lc_after {Γ : CT} {sp : Sp} {zf : Nat} {hf : Hp} {cs : Nat × Nat} {b L x m i sz : Nat} {xs : Nat → Int32} {K1 K2 : Ly} {h1 h2 : Hp} (X : Ok Γ sp code "AskedNamesLaw" 4 (some .boolean) 16 (some (.int 1)) zf (fun _ => none) hf) (O : Ol Γ 600000 7302250) (S : Sx Γ b L xs) (hL : L ≤ 3584) (E : LE x m K1 K2) (hcs : cs.1 ≤ 600000 ∧ cs.2 ≤ 7302250) (hi : i + 7 ≤ L) (v : XX x h1 m h2) (kk : ∀ h1' h2', XX x h1' m h2' → Go Γ cs 1216 [(0, .ref b), (1, .ref x), (2, .ref m), (3, .int (nI i))] [] sz (mgK m K1 K2) (mg m h1' h2')) : Go Γ cs 1071 [(0, .ref b), (1, .ref x), (2, .ref m), (3, .int (nI i))] [] sz (mgK m K1 K2) (mg m h1 h2) := by
  obtain ⟨E1, E2, kx, ku, ki, ex, em, s1, s2⟩ := E
  obtain ⟨w, h1', h2', e1, e2, v'⟩ := both_after (K1 := K1) (K2 := K2) (n := 5000) (a1 := xs (i + 1)) (a2 := xs (i + 2)) (a3 := xs (i + 3)) kx (Nat.le_refl _) v
  refine g_aload_n (n := 1) X (by decide +kernel) 1 rfl ?_
  refine g_aload_n (n := 0) X (by decide +kernel) 0 rfl ?_
  refine g_iload_n (n := 3) X (by decide +kernel) 3 rfl ?_
  refine g_iconst (n := 1) (x := nI 1) X (by decide +kernel) (by decide) ?_
  refine g_iadd X (by decide +kernel) ?_
  refine g_sld (i := i + 1) X S (nI_add _ _) (by omega) hL (by decide +kernel) ?_
  refine g_aload_n (n := 0) X (by decide +kernel) 0 rfl ?_
  refine g_iload_n (n := 3) X (by decide +kernel) 3 rfl ?_
  refine g_iconst (n := 2) (x := nI 2) X (by decide +kernel) (by decide) ?_
  refine g_iadd X (by decide +kernel) ?_
  refine g_sld (i := i + 2) X S (nI_add _ _) (by omega) hL (by decide +kernel) ?_
  refine g_aload_n (n := 0) X (by decide +kernel) 0 rfl ?_
  refine g_iload_n (n := 3) X (by decide +kernel) 3 rfl ?_
  refine g_iconst (n := 3) (x := nI 3) X (by decide +kernel) (by decide) ?_
  refine g_iadd X (by decide +kernel) ?_
  refine g_sld (i := i + 3) X S (nI_add _ _) (by omega) hL (by decide +kernel) ?_
  refine g_call2 (Kc := K1) (hc := h1) (hc' := h1') (h' := mg m h1' h2) X O [.int (xs (i + 1)), .int (xs (i + 2)), .int (xs (i + 3))] (by decide +kernel) mlL_96 ex rfl rfl (by decide) (Nat.le_of_ble_eq_true rfl) hcs (mg_w1 s1) (mg_w2 s1) (c0_after (n := 5000) E1 x (xs (i + 1)) (xs (i + 2)) (xs (i + 3)) h1 ex e1) ?_
  refine g_aload_n (n := 2) X (by decide +kernel) 2 rfl ?_
  refine g_aload_n (n := 0) X (by decide +kernel) 0 rfl ?_
  refine g_iload_n (n := 3) X (by decide +kernel) 3 rfl ?_
  refine g_iconst (n := 1) (x := nI 1) X (by decide +kernel) (by decide) ?_
  refine g_iadd X (by decide +kernel) ?_
  refine g_sld (i := i + 1) X S (nI_add _ _) (by omega) hL (by decide +kernel) ?_
  refine g_aload_n (n := 0) X (by decide +kernel) 0 rfl ?_
  refine g_iload_n (n := 3) X (by decide +kernel) 3 rfl ?_
  refine g_iconst (n := 2) (x := nI 2) X (by decide +kernel) (by decide) ?_
  refine g_iadd X (by decide +kernel) ?_
  refine g_sld (i := i + 2) X S (nI_add _ _) (by omega) hL (by decide +kernel) ?_
  refine g_aload_n (n := 0) X (by decide +kernel) 0 rfl ?_
  refine g_iload_n (n := 3) X (by decide +kernel) 3 rfl ?_
  refine g_iconst (n := 3) (x := nI 3) X (by decide +kernel) (by decide) ?_
  refine g_iadd X (by decide +kernel) ?_
  refine g_sld (i := i + 3) X S (nI_add _ _) (by omega) hL (by decide +kernel) ?_
  refine g_call2 (Kc := K2) (hc := h2) (hc' := h2') (h' := mg m h1' h2') X O [.int (xs (i + 1)), .int (xs (i + 2)), .int (xs (i + 3))] (by decide +kernel) mlL_99 em rfl rfl (by decide) (Nat.le_of_ble_eq_true rfl) hcs (mg_w3 s2) (mg_w4 s2) (c11_after (n := 5000) E2 m (xs (i + 1)) (xs (i + 2)) (xs (i + 3)) h2 em e2) ?_
  exact g_icmp_eq_t (off := 107) (tgt := 1216) X (by decide +kernel) (by decide) rfl (kk h1' h2' v')
set_option maxRecDepth 20000 in
theorem lc_edges {Γ : CT} {sp : Sp} {zf : Nat} {hf : Hp} {cs : Nat × Nat} {b L x m i sz : Nat} {xs : Nat → Int32} {K1 K2 : Ly} {h1 h2 : Hp} (X : Ok Γ sp code "AskedNamesLaw" 4 (some .boolean) 16 (some (.int 1)) zf (fun _ => none) hf) (O : Ol Γ 600000 7302250) (S : Sx Γ b L xs) (hL : L ≤ 3584) (E : LE x m K1 K2) (hcs : cs.1 ≤ 600000 ∧ cs.2 ≤ 7302250) (hi : i + 7 ≤ L) (v : XX x h1 m h2) (kk : ∀ h1' h2', XX x h1' m h2' → Go Γ cs 1216 [(0, .ref b), (1, .ref x), (2, .ref m), (3, .int (nI i))] [] sz (mgK m K1 K2) (mg m h1' h2')) : Go Γ cs 1114 [(0, .ref b), (1, .ref x), (2, .ref m), (3, .int (nI i))] [] sz (mgK m K1 K2) (mg m h1 h2) := by
  obtain ⟨E1, E2, kx, ku, ki, ex, em, s1, s2⟩ := E
  obtain ⟨w, h2', e1, e2, v'⟩ := both_edges (K1 := K1) (K2 := K2) (n := 5000) (a1 := xs (i + 1)) (a2 := xs (i + 2)) kx (Nat.le_refl _) v
  refine g_aload_n (n := 1) X (by decide +kernel) 1 rfl ?_
  refine g_aload_n (n := 0) X (by decide +kernel) 0 rfl ?_
  refine g_iload_n (n := 3) X (by decide +kernel) 3 rfl ?_
  refine g_iconst (n := 1) (x := nI 1) X (by decide +kernel) (by decide) ?_
  refine g_iadd X (by decide +kernel) ?_
  refine g_sld (i := i + 1) X S (nI_add _ _) (by omega) hL (by decide +kernel) ?_
  refine g_aload_n (n := 0) X (by decide +kernel) 0 rfl ?_
  refine g_iload_n (n := 3) X (by decide +kernel) 3 rfl ?_
  refine g_iconst (n := 2) (x := nI 2) X (by decide +kernel) (by decide) ?_
  refine g_iadd X (by decide +kernel) ?_
  refine g_sld (i := i + 2) X S (nI_add _ _) (by omega) hL (by decide +kernel) ?_
  refine g_call2 (Kc := K1) (hc := h1) (hc' := h1) (h' := mg m h1 h2) X O [.int (xs (i + 1)), .int (xs (i + 2))] (by decide +kernel) mlL_100 ex rfl rfl (by decide) (Nat.le_of_ble_eq_true rfl) hcs (mg_w1 s1) (mg_w2 s1) (c0_edges (n := 5000) E1 x (xs (i + 1)) (xs (i + 2)) h1 ex e1) ?_
  refine g_aload_n (n := 2) X (by decide +kernel) 2 rfl ?_
  refine g_aload_n (n := 0) X (by decide +kernel) 0 rfl ?_
  refine g_iload_n (n := 3) X (by decide +kernel) 3 rfl ?_
  refine g_iconst (n := 1) (x := nI 1) X (by decide +kernel) (by decide) ?_
  refine g_iadd X (by decide +kernel) ?_
  refine g_sld (i := i + 1) X S (nI_add _ _) (by omega) hL (by decide +kernel) ?_
  refine g_aload_n (n := 0) X (by decide +kernel) 0 rfl ?_
  refine g_iload_n (n := 3) X (by decide +kernel) 3 rfl ?_
  refine g_iconst (n := 2) (x := nI 2) X (by decide +kernel) (by decide) ?_
  refine g_iadd X (by decide +kernel) ?_
  refine g_sld (i := i + 2) X S (nI_add _ _) (by omega) hL (by decide +kernel) ?_
  refine g_call2 (Kc := K2) (hc := h2) (hc' := h2') (h' := mg m h1 h2') X O [.int (xs (i + 1)), .int (xs (i + 2))] (by decide +kernel) mlL_103 em rfl rfl (by decide) (Nat.le_of_ble_eq_true rfl) hcs (mg_w3 s2) (mg_w4 s2) (c11_edges (n := 5000) E2 m (xs (i + 1)) (xs (i + 2)) h2 em e2) ?_
  exact g_icmp_eq_t (off := 74) (tgt := 1216) X (by decide +kernel) (by decide) rfl (kk h1 h2' v')
set_option maxRecDepth 20000 in
theorem lc_count {Γ : CT} {sp : Sp} {zf : Nat} {hf : Hp} {cs : Nat × Nat} {b L x m i sz : Nat} {xs : Nat → Int32} {K1 K2 : Ly} {h1 h2 : Hp} (X : Ok Γ sp code "AskedNamesLaw" 4 (some .boolean) 16 (some (.int 1)) zf (fun _ => none) hf) (O : Ol Γ 600000 7302250) (S : Sx Γ b L xs) (hL : L ≤ 3584) (E : LE x m K1 K2) (hcs : cs.1 ≤ 600000 ∧ cs.2 ≤ 7302250) (hi : i + 7 ≤ L) (v : XX x h1 m h2) (kk : ∀ h1' h2', XX x h1' m h2' → Go Γ cs 1216 [(0, .ref b), (1, .ref x), (2, .ref m), (3, .int (nI i))] [] sz (mgK m K1 K2) (mg m h1' h2')) : Go Γ cs 1147 [(0, .ref b), (1, .ref x), (2, .ref m), (3, .int (nI i))] [] sz (mgK m K1 K2) (mg m h1 h2) := by
  obtain ⟨E1, E2, kx, ku, ki, ex, em, s1, s2⟩ := E
  obtain ⟨w, h2', e1, e2, v'⟩ := both_count (K1 := K1) (K2 := K2) (n := 5000) (a1 := xs (i + 1)) v
  refine g_aload_n (n := 1) X (by decide +kernel) 1 rfl ?_
  refine g_aload_n (n := 0) X (by decide +kernel) 0 rfl ?_
  refine g_iload_n (n := 3) X (by decide +kernel) 3 rfl ?_
  refine g_iconst (n := 1) (x := nI 1) X (by decide +kernel) (by decide) ?_
  refine g_iadd X (by decide +kernel) ?_
  refine g_sld (i := i + 1) X S (nI_add _ _) (by omega) hL (by decide +kernel) ?_
  refine g_call2 (Kc := K1) (hc := h1) (hc' := h1) (h' := mg m h1 h2) X O [.int (xs (i + 1))] (by decide +kernel) mlL_104 ex rfl rfl (by decide) (Nat.le_of_ble_eq_true rfl) hcs (mg_w1 s1) (mg_w2 s1) (c0_count (n := 5000) E1 x (xs (i + 1)) h1 ex e1) ?_
  refine g_aload_n (n := 2) X (by decide +kernel) 2 rfl ?_
  refine g_aload_n (n := 0) X (by decide +kernel) 0 rfl ?_
  refine g_iload_n (n := 3) X (by decide +kernel) 3 rfl ?_
  refine g_iconst (n := 1) (x := nI 1) X (by decide +kernel) (by decide) ?_
  refine g_iadd X (by decide +kernel) ?_
  refine g_sld (i := i + 1) X S (nI_add _ _) (by omega) hL (by decide +kernel) ?_
  refine g_call2 (Kc := K2) (hc := h2) (hc' := h2') (h' := mg m h1 h2') X O [.int (xs (i + 1))] (by decide +kernel) mlL_107 em rfl rfl (by decide) (Nat.le_of_ble_eq_true rfl) hcs (mg_w3 s2) (mg_w4 s2) (c11_count (n := 5000) E2 m (xs (i + 1)) h2 em e2) ?_
  exact g_icmp_eq_t (off := 51) (tgt := 1216) X (by decide +kernel) (by decide) rfl (kk h1 h2' v')
set_option maxRecDepth 20000 in
theorem lc_image {Γ : CT} {sp : Sp} {zf : Nat} {hf : Hp} {cs : Nat × Nat} {b L x m i sz : Nat} {xs : Nat → Int32} {K1 K2 : Ly} {h1 h2 : Hp} (X : Ok Γ sp code "AskedNamesLaw" 4 (some .boolean) 16 (some (.int 1)) zf (fun _ => none) hf) (O : Ol Γ 600000 7302250) (S : Sx Γ b L xs) (hL : L ≤ 3584) (E : LE x m K1 K2) (hcs : cs.1 ≤ 600000 ∧ cs.2 ≤ 7302250) (hi : i + 7 ≤ L) (v : XX x h1 m h2) (kk : ∀ h1' h2', XX x h1' m h2' → Go Γ cs 1216 [(0, .ref b), (1, .ref x), (2, .ref m), (3, .int (nI i))] [] sz (mgK m K1 K2) (mg m h1' h2')) : Go Γ cs 1170 [(0, .ref b), (1, .ref x), (2, .ref m), (3, .int (nI i))] [] sz (mgK m K1 K2) (mg m h1 h2) := by
  obtain ⟨E1, E2, kx, ku, ki, ex, em, s1, s2⟩ := E
  obtain ⟨w, h1', h2', e1, e2, v'⟩ := both_image (K1 := K1) (K2 := K2) (n := 5000) (a1 := xs (i + 1)) kx ki (Nat.le_refl _) v
  refine g_aload_n (n := 1) X (by decide +kernel) 1 rfl ?_
  refine g_aload_n (n := 0) X (by decide +kernel) 0 rfl ?_
  refine g_iload_n (n := 3) X (by decide +kernel) 3 rfl ?_
  refine g_iconst (n := 1) (x := nI 1) X (by decide +kernel) (by decide) ?_
  refine g_iadd X (by decide +kernel) ?_
  refine g_sld (i := i + 1) X S (nI_add _ _) (by omega) hL (by decide +kernel) ?_
  refine g_call2 (Kc := K1) (hc := h1) (hc' := h1') (h' := mg m h1' h2) X O [.int (xs (i + 1))] (by decide +kernel) mlL_108 ex rfl rfl (by decide) (Nat.le_of_ble_eq_true rfl) hcs (mg_w1 s1) (mg_w2 s1) (c0_image (n := 5000) E1 x (xs (i + 1)) h1 ex e1) ?_
  refine g_aload_n (n := 2) X (by decide +kernel) 2 rfl ?_
  refine g_aload_n (n := 0) X (by decide +kernel) 0 rfl ?_
  refine g_iload_n (n := 3) X (by decide +kernel) 3 rfl ?_
  refine g_iconst (n := 1) (x := nI 1) X (by decide +kernel) (by decide) ?_
  refine g_iadd X (by decide +kernel) ?_
  refine g_sld (i := i + 1) X S (nI_add _ _) (by omega) hL (by decide +kernel) ?_
  refine g_call2 (Kc := K2) (hc := h2) (hc' := h2') (h' := mg m h1' h2') X O [.int (xs (i + 1))] (by decide +kernel) mlL_112 em rfl rfl (by decide) (Nat.le_of_ble_eq_true rfl) hcs (mg_w3 s2) (mg_w4 s2) (c11_image (n := 5000) E2 m (xs (i + 1)) h2 em e2) ?_
  exact g_icmp_eq_t (off := 28) (tgt := 1216) X (by decide +kernel) (by decide) rfl (kk h1' h2' v')
set_option maxRecDepth 20000 in
theorem lc_again {Γ : CT} {sp : Sp} {zf : Nat} {hf : Hp} {cs : Nat × Nat} {b L x m i sz : Nat} {xs : Nat → Int32} {K1 K2 : Ly} {h1 h2 : Hp} (X : Ok Γ sp code "AskedNamesLaw" 4 (some .boolean) 16 (some (.int 1)) zf (fun _ => none) hf) (O : Ol Γ 600000 7302250) (S : Sx Γ b L xs) (hL : L ≤ 3584) (E : LE x m K1 K2) (hcs : cs.1 ≤ 600000 ∧ cs.2 ≤ 7302250) (hi : i + 7 ≤ L) (v : XX x h1 m h2) (kk : ∀ h1' h2', XX x h1' m h2' → Go Γ cs 1216 [(0, .ref b), (1, .ref x), (2, .ref m), (3, .int (nI i))] [] sz (mgK m K1 K2) (mg m h1' h2')) : Go Γ cs 1193 [(0, .ref b), (1, .ref x), (2, .ref m), (3, .int (nI i))] [] sz (mgK m K1 K2) (mg m h1 h2) := by
  obtain ⟨E1, E2, kx, ku, ki, ex, em, s1, s2⟩ := E
  obtain ⟨w, h1', h2', e1, e2, v'⟩ := both_again (K1 := K1) (K2 := K2) (n := 5000) (a1 := xs (i + 1)) kx ki (Nat.le_refl _) v
  refine g_aload_n (n := 1) X (by decide +kernel) 1 rfl ?_
  refine g_aload_n (n := 0) X (by decide +kernel) 0 rfl ?_
  refine g_iload_n (n := 3) X (by decide +kernel) 3 rfl ?_
  refine g_iconst (n := 1) (x := nI 1) X (by decide +kernel) (by decide) ?_
  refine g_iadd X (by decide +kernel) ?_
  refine g_sld (i := i + 1) X S (nI_add _ _) (by omega) hL (by decide +kernel) ?_
  refine g_call2 (Kc := K1) (hc := h1) (hc' := h1') (h' := mg m h1' h2) X O [.int (xs (i + 1))] (by decide +kernel) mlL_113 ex rfl rfl (by decide) (Nat.le_of_ble_eq_true rfl) hcs (mg_w1 s1) (mg_w2 s1) (c0_again (n := 5000) E1 x (xs (i + 1)) h1 ex e1) ?_
  refine g_aload_n (n := 2) X (by decide +kernel) 2 rfl ?_
  refine g_aload_n (n := 0) X (by decide +kernel) 0 rfl ?_
  refine g_iload_n (n := 3) X (by decide +kernel) 3 rfl ?_
  refine g_iconst (n := 1) (x := nI 1) X (by decide +kernel) (by decide) ?_
  refine g_iadd X (by decide +kernel) ?_
  refine g_sld (i := i + 1) X S (nI_add _ _) (by omega) hL (by decide +kernel) ?_
  refine g_call2 (Kc := K2) (hc := h2) (hc' := h2') (h' := mg m h1' h2') X O [.int (xs (i + 1))] (by decide +kernel) mlL_116 em rfl rfl (by decide) (Nat.le_of_ble_eq_true rfl) hcs (mg_w3 s2) (mg_w4 s2) (c11_again (n := 5000) E2 m (xs (i + 1)) h2 em e2) ?_
  exact g_icmp_eq_t (off := 5) (tgt := 1216) X (by decide +kernel) (by decide) rfl (kk h1' h2' v')
