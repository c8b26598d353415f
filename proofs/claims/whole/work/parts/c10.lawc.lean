def mgK (m : Nat) (K1 K2 : Ly) : Ly := fun a => if a < m then K1 a else K2 a
def mg (m : Nat) (h1 h2 : Hp) : Hp := (fun a k => if a < m then h1.1 a k else h2.1 a k, fun a k => if a < m then h1.2.1 a k else h2.2.1 a k, fun a k => if a < m then h1.2.2 a k else h2.2.2 a k)
theorem mg_lo {m b : Nat} {h1 h2 : Hp} (hb : b < m) (c j : Nat) : tV c (mg m h1 h2) b j = tV c h1 b j := by
  match c with
  | 0 => simp [tV, mg, hb]
  | 1 => simp [tV, mg, hb]
  | 2 => simp [tV, mg, hb]
  | c + 3 => rfl
theorem mg_hi {m b : Nat} {h1 h2 : Hp} (hb : ¬ b < m) (c j : Nat) : tV c (mg m h1 h2) b j = tV c h2 b j := by
  match c with
  | 0 => simp [tV, mg, hb]
  | 1 => simp [tV, mg, hb]
  | 2 => simp [tV, mg, hb]
  | c + 3 => rfl
section Mg
variable {m : Nat} {K1 K2 : Ly} {h1 h2 h1' h2' : Hp}
theorem mg_w1 (s1 : ∀ a k, K1 a = some k → a < m) : ∀ b k, K1 b = some k → mgK m K1 K2 b = some k ∧ ∀ c j, tV c h1 b j = tV c (mg m h1 h2) b j := fun b k hb =>
  ⟨by unfold mgK; rw [if_pos (s1 b k hb)]; exact hb, fun c j => (mg_lo (s1 b k hb) c j).symm⟩
theorem mg_w2 (s1 : ∀ a k, K1 a = some k → a < m) : ∀ b k, mgK m K1 K2 b = some k → (K1 b = some k ∧ ∀ c j, tV c (mg m h1' h2) b j = tV c h1' b j) ∨ (K1 b = none ∧ ∀ c j, tV c (mg m h1' h2) b j = tV c (mg m h1 h2) b j) := fun b k hb => by
  unfold mgK at hb
  by_cases hm : b < m
  · rw [if_pos hm] at hb
    exact Or.inl ⟨hb, fun c j => mg_lo hm c j⟩
  · refine Or.inr ⟨?_, fun c j => by rw [mg_hi hm, mg_hi hm]⟩
    cases hq : K1 b with
    | none => rfl
    | some q => exact absurd (s1 b q hq) hm
theorem mg_w3 (s2 : ∀ a k, K2 a = some k → m ≤ a) : ∀ b k, K2 b = some k → mgK m K1 K2 b = some k ∧ ∀ c j, tV c h2 b j = tV c (mg m h1 h2) b j := fun b k hb =>
  have hm : ¬ b < m := Nat.not_lt.mpr (s2 b k hb)
  ⟨by unfold mgK; rw [if_neg hm]; exact hb, fun c j => (mg_hi hm c j).symm⟩
theorem mg_w4 (s2 : ∀ a k, K2 a = some k → m ≤ a) : ∀ b k, mgK m K1 K2 b = some k → (K2 b = some k ∧ ∀ c j, tV c (mg m h1 h2') b j = tV c h2' b j) ∨ (K2 b = none ∧ ∀ c j, tV c (mg m h1 h2') b j = tV c (mg m h1 h2) b j) := fun b k hb => by
  unfold mgK at hb
  by_cases hm : b < m
  · refine Or.inr ⟨?_, fun c j => by rw [mg_lo hm, mg_lo hm]⟩
    cases hq : K2 b with
    | none => rfl
    | some q => exact absurd hm (Nat.not_lt.mpr (s2 b q hq))
  · rw [if_neg hm] at hb
    exact Or.inl ⟨hb, fun c j => mg_hi hm c j⟩
end Mg
def LE (x m : Nat) (K1 K2 : Ly) : Prop := LyOk K1 ∧ LyOk K2 ∧ KX K1 x ∧ K1 (x + 1 + 1) = some (.inr (1, 600)) ∧ (∀ k, k < 3 → K1 (tA x (k + 1)) = some (.inl 1)) ∧ K1 x = some (.inl 0) ∧ K2 m = some (.inl 11) ∧ (∀ a k, K1 a = some k → a < m) ∧ ∀ a k, K2 a = some k → m ≤ a
set_option maxRecDepth 20000 in
theorem lc_feed {Γ : CT} {sp : Sp} {zf : Nat} {hf : Hp} {cs : Nat × Nat} {b L x m i sz : Nat} {xs : Nat → Int32} {K1 K2 : Ly} {h1 h2 : Hp} (X : Ok Γ sp code "AskedNamesLaw" 4 (some .boolean) 16 (some (.int 1)) zf (fun _ => none) hf) (O : Ol Γ 600000 7302250) (S : Sx Γ b L xs) (hL : L ≤ 3584) (E : LE x m K1 K2) (hcs : cs.1 ≤ 600000 ∧ cs.2 ≤ 7302250) (hi : i + 7 ≤ L) (v : XX x h1 m h2) (kk : ∀ h1' h2', XX x h1' m h2' → Go Γ cs 1216 [(0, .ref b), (1, .ref x), (2, .ref m), (3, .int (nI i))] [] sz (mgK m K1 K2) (mg m h1' h2')) : Go Γ cs 144 [(0, .ref b), (1, .ref x), (2, .ref m), (3, .int (nI i))] [] sz (mgK m K1 K2) (mg m h1 h2) := by
  obtain ⟨E1, E2, kx, ku, ki, ex, em, s1, s2⟩ := E
  obtain ⟨w, h1', h2', e1, e2, v'⟩ := both_feed (K1 := K1) (K2 := K2) (n := 5000) (a1 := xs (i + 1)) (a2 := xs (i + 2)) (a3 := xs (i + 3)) (a4 := xs (i + 4)) (a5 := xs (i + 5)) (Nat.le_refl _) v
  refine g_aload_n (n := 1) X (by decide +kernel) 1 rfl ?_
  refine g_aload_n (n := 0) X (by decide +kernel) 0 rfl ?_
  refine g_iload_n (n := 3) X (by decide +kernel) 3 rfl ?_
  refine g_iconst (n := 1) (x := nI 1) X (by decide +kernel) (by decide) ?_
  refine g_iadd X (by decide +kernel) ?_
  refine g_sld (i := i + 1) X S (nI_add _ _) (by omega) hL (by decide +kernel) ?_
  refine g_aload_n (n := 0) X (by decide +kernel) 0 rfl ?_
  refine g_iload_n (n := 3) X (by decide +kernel) 3 rfl ?_
  refine g_iconst (n := 2) (x := nI 2) X (by decide +kernel) (by decide) ?_
  refine g_iadd X (by decide +kernel) ?_
  refine g_sld (i := i + 2) X S (nI_add _ _) (by omega) hL (by decide +kernel) ?_
  refine g_aload_n (n := 0) X (by decide +kernel) 0 rfl ?_
  refine g_iload_n (n := 3) X (by decide +kernel) 3 rfl ?_
  refine g_iconst (n := 3) (x := nI 3) X (by decide +kernel) (by decide) ?_
  refine g_iadd X (by decide +kernel) ?_
  refine g_sld (i := i + 3) X S (nI_add _ _) (by omega) hL (by decide +kernel) ?_
  refine g_aload_n (n := 0) X (by decide +kernel) 0 rfl ?_
  refine g_iload_n (n := 3) X (by decide +kernel) 3 rfl ?_
  refine g_iconst (n := 4) (x := nI 4) X (by decide +kernel) (by decide) ?_
  refine g_iadd X (by decide +kernel) ?_
  refine g_sld (i := i + 4) X S (nI_add _ _) (by omega) hL (by decide +kernel) ?_
  refine g_aload_n (n := 0) X (by decide +kernel) 0 rfl ?_
  refine g_iload_n (n := 3) X (by decide +kernel) 3 rfl ?_
  refine g_iconst (n := 5) (x := nI 5) X (by decide +kernel) (by decide) ?_
  refine g_iadd X (by decide +kernel) ?_
  refine g_sld (i := i + 5) X S (nI_add _ _) (by omega) hL (by decide +kernel) ?_
  refine g_call2 (Kc := K1) (hc := h1) (hc' := h1') (h' := mg m h1' h2) X O [.int (xs (i + 1)), .int (xs (i + 2)), .int (xs (i + 3)), .int (xs (i + 4)), .int (xs (i + 5))] (by decide +kernel) mlL_13 ex rfl rfl (by decide) (Nat.le_of_ble_eq_true rfl) hcs (mg_w1 s1) (mg_w2 s1) (c0_feed (n := 5000) E1 x (xs (i + 1)) (xs (i + 2)) (xs (i + 3)) (xs (i + 4)) (xs (i + 5)) h1 ex e1) ?_
  refine g_aload_n (n := 2) X (by decide +kernel) 2 rfl ?_
  refine g_aload_n (n := 0) X (by decide +kernel) 0 rfl ?_
  refine g_iload_n (n := 3) X (by decide +kernel) 3 rfl ?_
  refine g_iconst (n := 1) (x := nI 1) X (by decide +kernel) (by decide) ?_
  refine g_iadd X (by decide +kernel) ?_
  refine g_sld (i := i + 1) X S (nI_add _ _) (by omega) hL (by decide +kernel) ?_
  refine g_aload_n (n := 0) X (by decide +kernel) 0 rfl ?_
  refine g_iload_n (n := 3) X (by decide +kernel) 3 rfl ?_
  refine g_iconst (n := 2) (x := nI 2) X (by decide +kernel) (by decide) ?_
  refine g_iadd X (by decide +kernel) ?_
  refine g_sld (i := i + 2) X S (nI_add _ _) (by omega) hL (by decide +kernel) ?_
  refine g_aload_n (n := 0) X (by decide +kernel) 0 rfl ?_
  refine g_iload_n (n := 3) X (by decide +kernel) 3 rfl ?_
  refine g_iconst (n := 3) (x := nI 3) X (by decide +kernel) (by decide) ?_
  refine g_iadd X (by decide +kernel) ?_
  refine g_sld (i := i + 3) X S (nI_add _ _) (by omega) hL (by decide +kernel) ?_
  refine g_aload_n (n := 0) X (by decide +kernel) 0 rfl ?_
  refine g_iload_n (n := 3) X (by decide +kernel) 3 rfl ?_
  refine g_iconst (n := 4) (x := nI 4) X (by decide +kernel) (by decide) ?_
  refine g_iadd X (by decide +kernel) ?_
  refine g_sld (i := i + 4) X S (nI_add _ _) (by omega) hL (by decide +kernel) ?_
  refine g_aload_n (n := 0) X (by decide +kernel) 0 rfl ?_
  refine g_iload_n (n := 3) X (by decide +kernel) 3 rfl ?_
  refine g_iconst (n := 5) (x := nI 5) X (by decide +kernel) (by decide) ?_
  refine g_iadd X (by decide +kernel) ?_
  refine g_sld (i := i + 5) X S (nI_add _ _) (by omega) hL (by decide +kernel) ?_
  refine g_call2 (Kc := K2) (hc := h2) (hc' := h2') (h' := mg m h1' h2') X O [.int (xs (i + 1)), .int (xs (i + 2)), .int (xs (i + 3)), .int (xs (i + 4)), .int (xs (i + 5))] (by decide +kernel) mlL_17 em rfl rfl (by decide) (Nat.le_of_ble_eq_true rfl) hcs (mg_w3 s2) (mg_w4 s2) (c11_feed (n := 5000) E2 m (xs (i + 1)) (xs (i + 2)) (xs (i + 3)) (xs (i + 4)) (xs (i + 5)) h2 em e2) ?_
  exact g_icmp_eq_t (off := 1014) (tgt := 1216) X (by decide +kernel) (by decide) rfl (kk h1' h2' v')
set_option maxRecDepth 20000 in
theorem lc_end {Γ : CT} {sp : Sp} {zf : Nat} {hf : Hp} {cs : Nat × Nat} {b L x m i sz : Nat} {xs : Nat → Int32} {K1 K2 : Ly} {h1 h2 : Hp} (X : Ok Γ sp code "AskedNamesLaw" 4 (some .boolean) 16 (some (.int 1)) zf (fun _ => none) hf) (O : Ol Γ 600000 7302250) (S : Sx Γ b L xs) (hL : L ≤ 3584) (E : LE x m K1 K2) (hcs : cs.1 ≤ 600000 ∧ cs.2 ≤ 7302250) (hi : i + 7 ≤ L) (v : XX x h1 m h2) (kk : ∀ h1' h2', XX x h1' m h2' → Go Γ cs 1216 [(0, .ref b), (1, .ref x), (2, .ref m), (3, .int (nI i))] [] sz (mgK m K1 K2) (mg m h1' h2')) : Go Γ cs 207 [(0, .ref b), (1, .ref x), (2, .ref m), (3, .int (nI i))] [] sz (mgK m K1 K2) (mg m h1 h2) := by
  obtain ⟨E1, E2, kx, ku, ki, ex, em, s1, s2⟩ := E
  obtain ⟨w, h1', h2', e1, e2, v'⟩ := both_end (K1 := K1) (K2 := K2) (n := 5000) (a1 := xs (i + 1)) v
  refine g_aload_n (n := 1) X (by decide +kernel) 1 rfl ?_
  refine g_aload_n (n := 0) X (by decide +kernel) 0 rfl ?_
  refine g_iload_n (n := 3) X (by decide +kernel) 3 rfl ?_
  refine g_iconst (n := 1) (x := nI 1) X (by decide +kernel) (by decide) ?_
  refine g_iadd X (by decide +kernel) ?_
  refine g_sld (i := i + 1) X S (nI_add _ _) (by omega) hL (by decide +kernel) ?_
  refine g_call2 (Kc := K1) (hc := h1) (hc' := h1') (h' := mg m h1' h2) X O [.int (xs (i + 1))] (by decide +kernel) mlL_18 ex rfl rfl (by decide) (Nat.le_of_ble_eq_true rfl) hcs (mg_w1 s1) (mg_w2 s1) (c0_end (n := 5000) E1 x (xs (i + 1)) h1 ex e1) ?_
  refine g_aload_n (n := 2) X (by decide +kernel) 2 rfl ?_
  refine g_aload_n (n := 0) X (by decide +kernel) 0 rfl ?_
  refine g_iload_n (n := 3) X (by decide +kernel) 3 rfl ?_
  refine g_iconst (n := 1) (x := nI 1) X (by decide +kernel) (by decide) ?_
  refine g_iadd X (by decide +kernel) ?_
  refine g_sld (i := i + 1) X S (nI_add _ _) (by omega) hL (by decide +kernel) ?_
  refine g_call2 (Kc := K2) (hc := h2) (hc' := h2') (h' := mg m h1' h2') X O [.int (xs (i + 1))] (by decide +kernel) mlL_22 em rfl rfl (by decide) (Nat.le_of_ble_eq_true rfl) hcs (mg_w3 s2) (mg_w4 s2) (c11_end (n := 5000) E2 m (xs (i + 1)) h2 em e2) ?_
  exact g_icmp_eq_t (off := 991) (tgt := 1216) X (by decide +kernel) (by decide) rfl (kk h1' h2' v')
set_option maxRecDepth 20000 in
theorem lc_text {Γ : CT} {sp : Sp} {zf : Nat} {hf : Hp} {cs : Nat × Nat} {b L x m i sz : Nat} {xs : Nat → Int32} {K1 K2 : Ly} {h1 h2 : Hp} (X : Ok Γ sp code "AskedNamesLaw" 4 (some .boolean) 16 (some (.int 1)) zf (fun _ => none) hf) (O : Ol Γ 600000 7302250) (S : Sx Γ b L xs) (hL : L ≤ 3584) (E : LE x m K1 K2) (hcs : cs.1 ≤ 600000 ∧ cs.2 ≤ 7302250) (hi : i + 7 ≤ L) (v : XX x h1 m h2) (kk : ∀ h1' h2', XX x h1' m h2' → Go Γ cs 1216 [(0, .ref b), (1, .ref x), (2, .ref m), (3, .int (nI i))] [] sz (mgK m K1 K2) (mg m h1' h2')) : Go Γ cs 230 [(0, .ref b), (1, .ref x), (2, .ref m), (3, .int (nI i))] [] sz (mgK m K1 K2) (mg m h1 h2) := by
  obtain ⟨E1, E2, kx, ku, ki, ex, em, s1, s2⟩ := E
  obtain ⟨w, h1', h2', e1, e2, v'⟩ := both_text (K1 := K1) (K2 := K2) (n := 5000) (a1 := xs (i + 1)) (a2 := xs (i + 2)) kx ku (Nat.le_refl _) v
  refine g_aload_n (n := 1) X (by decide +kernel) 1 rfl ?_
  refine g_aload_n (n := 0) X (by decide +kernel) 0 rfl ?_
  refine g_iload_n (n := 3) X (by decide +kernel) 3 rfl ?_
  refine g_iconst (n := 1) (x := nI 1) X (by decide +kernel) (by decide) ?_
  refine g_iadd X (by decide +kernel) ?_
  refine g_sld (i := i + 1) X S (nI_add _ _) (by omega) hL (by decide +kernel) ?_
  refine g_aload_n (n := 0) X (by decide +kernel) 0 rfl ?_
  refine g_iload_n (n := 3) X (by decide +kernel) 3 rfl ?_
  refine g_iconst (n := 2) (x := nI 2) X (by decide +kernel) (by decide) ?_
  refine g_iadd X (by decide +kernel) ?_
  refine g_sld (i := i + 2) X S (nI_add _ _) (by omega) hL (by decide +kernel) ?_
  refine g_call2 (Kc := K1) (hc := h1) (hc' := h1') (h' := mg m h1' h2) X O [.int (xs (i + 1)), .int (xs (i + 2))] (by decide +kernel) mlL_23 ex rfl rfl (by decide) (Nat.le_of_ble_eq_true rfl) hcs (mg_w1 s1) (mg_w2 s1) (c0_text (n := 5000) E1 x (xs (i + 1)) (xs (i + 2)) h1 ex e1) ?_
  refine g_aload_n (n := 2) X (by decide +kernel) 2 rfl ?_
  refine g_aload_n (n := 0) X (by decide +kernel) 0 rfl ?_
  refine g_iload_n (n := 3) X (by decide +kernel) 3 rfl ?_
  refine g_iconst (n := 1) (x := nI 1) X (by decide +kernel) (by decide) ?_
  refine g_iadd X (by decide +kernel) ?_
  refine g_sld (i := i + 1) X S (nI_add _ _) (by omega) hL (by decide +kernel) ?_
  refine g_aload_n (n := 0) X (by decide +kernel) 0 rfl ?_
  refine g_iload_n (n := 3) X (by decide +kernel) 3 rfl ?_
  refine g_iconst (n := 2) (x := nI 2) X (by decide +kernel) (by decide) ?_
  refine g_iadd X (by decide +kernel) ?_
  refine g_sld (i := i + 2) X S (nI_add _ _) (by omega) hL (by decide +kernel) ?_
  refine g_call2 (Kc := K2) (hc := h2) (hc' := h2') (h' := mg m h1' h2') X O [.int (xs (i + 1)), .int (xs (i + 2))] (by decide +kernel) mlL_27 em rfl rfl (by decide) (Nat.le_of_ble_eq_true rfl) hcs (mg_w3 s2) (mg_w4 s2) (c11_text (n := 5000) E2 m (xs (i + 1)) (xs (i + 2)) h2 em e2) ?_
  exact g_icmp_eq_t (off := 958) (tgt := 1216) X (by decide +kernel) (by decide) rfl (kk h1' h2' v')
set_option maxRecDepth 20000 in
theorem lc_fault {Γ : CT} {sp : Sp} {zf : Nat} {hf : Hp} {cs : Nat × Nat} {b L x m i sz : Nat} {xs : Nat → Int32} {K1 K2 : Ly} {h1 h2 : Hp} (X : Ok Γ sp code "AskedNamesLaw" 4 (some .boolean) 16 (some (.int 1)) zf (fun _ => none) hf) (O : Ol Γ 600000 7302250) (S : Sx Γ b L xs) (hL : L ≤ 3584) (E : LE x m K1 K2) (hcs : cs.1 ≤ 600000 ∧ cs.2 ≤ 7302250) (hi : i + 7 ≤ L) (v : XX x h1 m h2) (kk : ∀ h1' h2', XX x h1' m h2' → Go Γ cs 1216 [(0, .ref b), (1, .ref x), (2, .ref m), (3, .int (nI i))] [] sz (mgK m K1 K2) (mg m h1' h2')) : Go Γ cs 263 [(0, .ref b), (1, .ref x), (2, .ref m), (3, .int (nI i))] [] sz (mgK m K1 K2) (mg m h1 h2) := by
  obtain ⟨E1, E2, kx, ku, ki, ex, em, s1, s2⟩ := E
  obtain ⟨w, h2', e1, e2, v'⟩ := both_fault (K2 := K2) (n := 5000) (a1 := xs (i + 1)) v
  have c1 := c0_fault (sp := sp) (sz := sz) E1 x (xs (i + 1)) h1 ex
  rw [Option.some.inj e1] at c1
  refine g_aload_n (n := 1) X (by decide +kernel) 1 rfl ?_
  refine g_aload_n (n := 0) X (by decide +kernel) 0 rfl ?_
  refine g_iload_n (n := 3) X (by decide +kernel) 3 rfl ?_
  refine g_iconst (n := 1) (x := nI 1) X (by decide +kernel) (by decide) ?_
  refine g_iadd X (by decide +kernel) ?_
  refine g_sld (i := i + 1) X S (nI_add _ _) (by omega) hL (by decide +kernel) ?_
  refine g_call2 (Kc := K1) (hc := h1) (hc' := h1) (h' := mg m h1 h2) X O [.int (xs (i + 1))] (by decide +kernel) mlL_28 ex rfl rfl (by decide) (Nat.le_of_ble_eq_true rfl) hcs (mg_w1 s1) (mg_w2 s1) c1 ?_
  refine g_aload_n (n := 2) X (by decide +kernel) 2 rfl ?_
  refine g_aload_n (n := 0) X (by decide +kernel) 0 rfl ?_
  refine g_iload_n (n := 3) X (by decide +kernel) 3 rfl ?_
  refine g_iconst (n := 1) (x := nI 1) X (by decide +kernel) (by decide) ?_
  refine g_iadd X (by decide +kernel) ?_
  refine g_sld (i := i + 1) X S (nI_add _ _) (by omega) hL (by decide +kernel) ?_
  refine g_call2 (Kc := K2) (hc := h2) (hc' := h2') (h' := mg m h1 h2') X O [.int (xs (i + 1))] (by decide +kernel) mlL_31 em rfl rfl (by decide) (Nat.le_of_ble_eq_true rfl) hcs (mg_w3 s2) (mg_w4 s2) (c11_fault (n := 5000) E2 m (xs (i + 1)) h2 em e2) ?_
  exact g_icmp_eq_t (off := 935) (tgt := 1216) X (by decide +kernel) (by decide) rfl (kk h1 h2' v')
set_option maxRecDepth 20000 in
theorem lc_net {Γ : CT} {sp : Sp} {zf : Nat} {hf : Hp} {cs : Nat × Nat} {b L x m i sz : Nat} {xs : Nat → Int32} {K1 K2 : Ly} {h1 h2 : Hp} (X : Ok Γ sp code "AskedNamesLaw" 4 (some .boolean) 16 (some (.int 1)) zf (fun _ => none) hf) (O : Ol Γ 600000 7302250) (S : Sx Γ b L xs) (hL : L ≤ 3584) (E : LE x m K1 K2) (hcs : cs.1 ≤ 600000 ∧ cs.2 ≤ 7302250) (hi : i + 7 ≤ L) (v : XX x h1 m h2) (kk : ∀ h1' h2', XX x h1' m h2' → Go Γ cs 1216 [(0, .ref b), (1, .ref x), (2, .ref m), (3, .int (nI i))] [] sz (mgK m K1 K2) (mg m h1' h2')) : Go Γ cs 286 [(0, .ref b), (1, .ref x), (2, .ref m), (3, .int (nI i))] [] sz (mgK m K1 K2) (mg m h1 h2) := by
  obtain ⟨E1, E2, kx, ku, ki, ex, em, s1, s2⟩ := E
  obtain ⟨w, h2', e1, e2, v'⟩ := both_net (K1 := K1) (K2 := K2) (n := 5000) (a1 := xs (i + 1)) (a2 := xs (i + 2)) kx (Nat.le_refl _) v
  refine g_aload_n (n := 1) X (by decide +kernel) 1 rfl ?_
  refine g_aload_n (n := 0) X (by decide +kernel) 0 rfl ?_
  refine g_iload_n (n := 3) X (by decide +kernel) 3 rfl ?_
  refine g_iconst (n := 1) (x := nI 1) X (by decide +kernel) (by decide) ?_
  refine g_iadd X (by decide +kernel) ?_
  refine g_sld (i := i + 1) X S (nI_add _ _) (by omega) hL (by decide +kernel) ?_
  refine g_aload_n (n := 0) X (by decide +kernel) 0 rfl ?_
  refine g_iload_n (n := 3) X (by decide +kernel) 3 rfl ?_
  refine g_iconst (n := 2) (x := nI 2) X (by decide +kernel) (by decide) ?_
  refine g_iadd X (by decide +kernel) ?_
  refine g_sld (i := i + 2) X S (nI_add _ _) (by omega) hL (by decide +kernel) ?_
  refine g_call2 (Kc := K1) (hc := h1) (hc' := h1) (h' := mg m h1 h2) X O [.int (xs (i + 1)), .int (xs (i + 2))] (by decide +kernel) mlL_32 ex rfl rfl (by decide) (Nat.le_of_ble_eq_true rfl) hcs (mg_w1 s1) (mg_w2 s1) (c0_net (n := 5000) E1 x (xs (i + 1)) (xs (i + 2)) h1 ex e1) ?_
  refine g_aload_n (n := 2) X (by decide +kernel) 2 rfl ?_
  refine g_aload_n (n := 0) X (by decide +kernel) 0 rfl ?_
  refine g_iload_n (n := 3) X (by decide +kernel) 3 rfl ?_
  refine g_iconst (n := 1) (x := nI 1) X (by decide +kernel) (by decide) ?_
  refine g_iadd X (by decide +kernel) ?_
  refine g_sld (i := i + 1) X S (nI_add _ _) (by omega) hL (by decide +kernel) ?_
  refine g_aload_n (n := 0) X (by decide +kernel) 0 rfl ?_
  refine g_iload_n (n := 3) X (by decide +kernel) 3 rfl ?_
  refine g_iconst (n := 2) (x := nI 2) X (by decide +kernel) (by decide) ?_
  refine g_iadd X (by decide +kernel) ?_
  refine g_sld (i := i + 2) X S (nI_add _ _) (by omega) hL (by decide +kernel) ?_
  refine g_call2 (Kc := K2) (hc := h2) (hc' := h2') (h' := mg m h1 h2') X O [.int (xs (i + 1)), .int (xs (i + 2))] (by decide +kernel) mlL_35 em rfl rfl (by decide) (Nat.le_of_ble_eq_true rfl) hcs (mg_w3 s2) (mg_w4 s2) (c11_net (n := 5000) E2 m (xs (i + 1)) (xs (i + 2)) h2 em e2) ?_
  exact g_icmp_eq_t (off := 902) (tgt := 1216) X (by decide +kernel) (by decide) rfl (kk h1 h2' v')
set_option maxRecDepth 20000 in
theorem lc_deed {Γ : CT} {sp : Sp} {zf : Nat} {hf : Hp} {cs : Nat × Nat} {b L x m i sz : Nat} {xs : Nat → Int32} {K1 K2 : Ly} {h1 h2 : Hp} (X : Ok Γ sp code "AskedNamesLaw" 4 (some .boolean) 16 (some (.int 1)) zf (fun _ => none) hf) (O : Ol Γ 600000 7302250) (S : Sx Γ b L xs) (hL : L ≤ 3584) (E : LE x m K1 K2) (hcs : cs.1 ≤ 600000 ∧ cs.2 ≤ 7302250) (hi : i + 7 ≤ L) (v : XX x h1 m h2) (kk : ∀ h1' h2', XX x h1' m h2' → Go Γ cs 1216 [(0, .ref b), (1, .ref x), (2, .ref m), (3, .int (nI i))] [] sz (mgK m K1 K2) (mg m h1' h2')) : Go Γ cs 319 [(0, .ref b), (1, .ref x), (2, .ref m), (3, .int (nI i))] [] sz (mgK m K1 K2) (mg m h1 h2) := by
  obtain ⟨E1, E2, kx, ku, ki, ex, em, s1, s2⟩ := E
  obtain ⟨w, h2', e1, e2, v'⟩ := both_deed_c (K1 := K1) (K2 := K2) (n := 5000) (a1 := xs (i + 1)) (a2 := xs (i + 2)) (a3 := xs (i + 3)) kx v
  refine g_aload_n (n := 1) X (by decide +kernel) 1 rfl ?_
  refine g_aload_n (n := 0) X (by decide +kernel) 0 rfl ?_
  refine g_iload_n (n := 3) X (by decide +kernel) 3 rfl ?_
  refine g_iconst (n := 1) (x := nI 1) X (by decide +kernel) (by decide) ?_
  refine g_iadd X (by decide +kernel) ?_
  refine g_sld (i := i + 1) X S (nI_add _ _) (by omega) hL (by decide +kernel) ?_
  refine g_aload_n (n := 0) X (by decide +kernel) 0 rfl ?_
  refine g_iload_n (n := 3) X (by decide +kernel) 3 rfl ?_
  refine g_iconst (n := 2) (x := nI 2) X (by decide +kernel) (by decide) ?_
  refine g_iadd X (by decide +kernel) ?_
  refine g_sld (i := i + 2) X S (nI_add _ _) (by omega) hL (by decide +kernel) ?_
  refine g_aload_n (n := 0) X (by decide +kernel) 0 rfl ?_
  refine g_iload_n (n := 3) X (by decide +kernel) 3 rfl ?_
  refine g_iconst (n := 3) (x := nI 3) X (by decide +kernel) (by decide) ?_
  refine g_iadd X (by decide +kernel) ?_
  refine g_sld (i := i + 3) X S (nI_add _ _) (by omega) hL (by decide +kernel) ?_
  refine g_call2 (Kc := K1) (hc := h1) (hc' := h1) (h' := mg m h1 h2) X O [.int (xs (i + 1)), .int (xs (i + 2)), .int (xs (i + 3))] (by decide +kernel) mlL_36 ex rfl rfl (by decide) (Nat.le_of_ble_eq_true rfl) hcs (mg_w1 s1) (mg_w2 s1) (c0_deed (n := 5000) E1 x (xs (i + 1)) (xs (i + 2)) (xs (i + 3)) h1 ex e1) ?_
  refine g_aload_n (n := 2) X (by decide +kernel) 2 rfl ?_
  refine g_aload_n (n := 0) X (by decide +kernel) 0 rfl ?_
  refine g_iload_n (n := 3) X (by decide +kernel) 3 rfl ?_
  refine g_iconst (n := 1) (x := nI 1) X (by decide +kernel) (by decide) ?_
  refine g_iadd X (by decide +kernel) ?_
  refine g_sld (i := i + 1) X S (nI_add _ _) (by omega) hL (by decide +kernel) ?_
  refine g_aload_n (n := 0) X (by decide +kernel) 0 rfl ?_
  refine g_iload_n (n := 3) X (by decide +kernel) 3 rfl ?_
  refine g_iconst (n := 2) (x := nI 2) X (by decide +kernel) (by decide) ?_
  refine g_iadd X (by decide +kernel) ?_
  refine g_sld (i := i + 2) X S (nI_add _ _) (by omega) hL (by decide +kernel) ?_
  refine g_aload_n (n := 0) X (by decide +kernel) 0 rfl ?_
  refine g_iload_n (n := 3) X (by decide +kernel) 3 rfl ?_
  refine g_iconst (n := 3) (x := nI 3) X (by decide +kernel) (by decide) ?_
  refine g_iadd X (by decide +kernel) ?_
  refine g_sld (i := i + 3) X S (nI_add _ _) (by omega) hL (by decide +kernel) ?_
  refine g_call2 (Kc := K2) (hc := h2) (hc' := h2') (h' := mg m h1 h2') X O [.int (xs (i + 1)), .int (xs (i + 2)), .int (xs (i + 3))] (by decide +kernel) mlL_40 em rfl rfl (by decide) (Nat.le_of_ble_eq_true rfl) hcs (mg_w3 s2) (mg_w4 s2) (c11_deed (n := 5000) E2 m (xs (i + 1)) (xs (i + 2)) (xs (i + 3)) h2 em e2) ?_
  exact g_icmp_eq_t (off := 859) (tgt := 1216) X (by decide +kernel) (by decide) rfl (kk h1 h2' v')
set_option maxRecDepth 20000 in
theorem lc_stop {Γ : CT} {sp : Sp} {zf : Nat} {hf : Hp} {cs : Nat × Nat} {b L x m i sz : Nat} {xs : Nat → Int32} {K1 K2 : Ly} {h1 h2 : Hp} (X : Ok Γ sp code "AskedNamesLaw" 4 (some .boolean) 16 (some (.int 1)) zf (fun _ => none) hf) (O : Ol Γ 600000 7302250) (S : Sx Γ b L xs) (hL : L ≤ 3584) (E : LE x m K1 K2) (hcs : cs.1 ≤ 600000 ∧ cs.2 ≤ 7302250) (hi : i + 7 ≤ L) (v : XX x h1 m h2) (kk : ∀ h1' h2', XX x h1' m h2' → Go Γ cs 1216 [(0, .ref b), (1, .ref x), (2, .ref m), (3, .int (nI i))] [] sz (mgK m K1 K2) (mg m h1' h2')) : Go Γ cs 362 [(0, .ref b), (1, .ref x), (2, .ref m), (3, .int (nI i))] [] sz (mgK m K1 K2) (mg m h1 h2) := by
  obtain ⟨E1, E2, kx, ku, ki, ex, em, s1, s2⟩ := E
  obtain ⟨w, h1', h2', e1, e2, v'⟩ := both_stop (K1 := K1) (K2 := K2) (n := 5000) (a1 := xs (i + 1)) (a2 := xs (i + 2)) kx (Nat.le_refl _) v
  refine g_aload_n (n := 1) X (by decide +kernel) 1 rfl ?_
  refine g_aload_n (n := 0) X (by decide +kernel) 0 rfl ?_
  refine g_iload_n (n := 3) X (by decide +kernel) 3 rfl ?_
  refine g_iconst (n := 1) (x := nI 1) X (by decide +kernel) (by decide) ?_
  refine g_iadd X (by decide +kernel) ?_
  refine g_sld (i := i + 1) X S (nI_add _ _) (by omega) hL (by decide +kernel) ?_
  refine g_aload_n (n := 0) X (by decide +kernel) 0 rfl ?_
  refine g_iload_n (n := 3) X (by decide +kernel) 3 rfl ?_
  refine g_iconst (n := 2) (x := nI 2) X (by decide +kernel) (by decide) ?_
  refine g_iadd X (by decide +kernel) ?_
  refine g_sld (i := i + 2) X S (nI_add _ _) (by omega) hL (by decide +kernel) ?_
  refine g_call2 (Kc := K1) (hc := h1) (hc' := h1') (h' := mg m h1' h2) X O [.int (xs (i + 1)), .int (xs (i + 2))] (by decide +kernel) mlL_41 ex rfl rfl (by decide) (Nat.le_of_ble_eq_true rfl) hcs (mg_w1 s1) (mg_w2 s1) (c0_stop (n := 5000) E1 x (xs (i + 1)) (xs (i + 2)) h1 ex e1) ?_
  refine g_aload_n (n := 2) X (by decide +kernel) 2 rfl ?_
  refine g_aload_n (n := 0) X (by decide +kernel) 0 rfl ?_
  refine g_iload_n (n := 3) X (by decide +kernel) 3 rfl ?_
  refine g_iconst (n := 1) (x := nI 1) X (by decide +kernel) (by decide) ?_
  refine g_iadd X (by decide +kernel) ?_
  refine g_sld (i := i + 1) X S (nI_add _ _) (by omega) hL (by decide +kernel) ?_
  refine g_aload_n (n := 0) X (by decide +kernel) 0 rfl ?_
  refine g_iload_n (n := 3) X (by decide +kernel) 3 rfl ?_
  refine g_iconst (n := 2) (x := nI 2) X (by decide +kernel) (by decide) ?_
  refine g_iadd X (by decide +kernel) ?_
  refine g_sld (i := i + 2) X S (nI_add _ _) (by omega) hL (by decide +kernel) ?_
  refine g_call2 (Kc := K2) (hc := h2) (hc' := h2') (h' := mg m h1' h2') X O [.int (xs (i + 1)), .int (xs (i + 2))] (by decide +kernel) mlL_44 em rfl rfl (by decide) (Nat.le_of_ble_eq_true rfl) hcs (mg_w3 s2) (mg_w4 s2) (c11_stop (n := 5000) E2 m (xs (i + 1)) (xs (i + 2)) h2 em e2) ?_
  exact g_icmp_eq_t (off := 826) (tgt := 1216) X (by decide +kernel) (by decide) rfl (kk h1' h2' v')
set_option maxRecDepth 20000 in
theorem lc_state {Γ : CT} {sp : Sp} {zf : Nat} {hf : Hp} {cs : Nat × Nat} {b L x m i sz : Nat} {xs : Nat → Int32} {K1 K2 : Ly} {h1 h2 : Hp} (X : Ok Γ sp code "AskedNamesLaw" 4 (some .boolean) 16 (some (.int 1)) zf (fun _ => none) hf) (O : Ol Γ 600000 7302250) (S : Sx Γ b L xs) (hL : L ≤ 3584) (E : LE x m K1 K2) (hcs : cs.1 ≤ 600000 ∧ cs.2 ≤ 7302250) (hi : i + 7 ≤ L) (v : XX x h1 m h2) (kk : ∀ h1' h2', XX x h1' m h2' → Go Γ cs 1216 [(0, .ref b), (1, .ref x), (2, .ref m), (3, .int (nI i))] [] sz (mgK m K1 K2) (mg m h1' h2')) : Go Γ cs 395 [(0, .ref b), (1, .ref x), (2, .ref m), (3, .int (nI i))] [] sz (mgK m K1 K2) (mg m h1 h2) := by
  obtain ⟨E1, E2, kx, ku, ki, ex, em, s1, s2⟩ := E
  obtain ⟨w, h1', h2', e1, e2, v'⟩ := both_state (K1 := K1) (K2 := K2) (n := 5000) (a1 := xs (i + 1)) (a2 := xs (i + 2)) (a3 := xs (i + 3)) (a4 := xs (i + 4)) kx (Nat.le_refl _) v
  refine g_aload_n (n := 1) X (by decide +kernel) 1 rfl ?_
  refine g_aload_n (n := 0) X (by decide +kernel) 0 rfl ?_
  refine g_iload_n (n := 3) X (by decide +kernel) 3 rfl ?_
  refine g_iconst (n := 1) (x := nI 1) X (by decide +kernel) (by decide) ?_
  refine g_iadd X (by decide +kernel) ?_
  refine g_sld (i := i + 1) X S (nI_add _ _) (by omega) hL (by decide +kernel) ?_
  refine g_aload_n (n := 0) X (by decide +kernel) 0 rfl ?_
  refine g_iload_n (n := 3) X (by decide +kernel) 3 rfl ?_
  refine g_iconst (n := 2) (x := nI 2) X (by decide +kernel) (by decide) ?_
  refine g_iadd X (by decide +kernel) ?_
  refine g_sld (i := i + 2) X S (nI_add _ _) (by omega) hL (by decide +kernel) ?_
  refine g_aload_n (n := 0) X (by decide +kernel) 0 rfl ?_
  refine g_iload_n (n := 3) X (by decide +kernel) 3 rfl ?_
  refine g_iconst (n := 3) (x := nI 3) X (by decide +kernel) (by decide) ?_
  refine g_iadd X (by decide +kernel) ?_
  refine g_sld (i := i + 3) X S (nI_add _ _) (by omega) hL (by decide +kernel) ?_
  refine g_aload_n (n := 0) X (by decide +kernel) 0 rfl ?_
  refine g_iload_n (n := 3) X (by decide +kernel) 3 rfl ?_
  refine g_iconst (n := 4) (x := nI 4) X (by decide +kernel) (by decide) ?_
  refine g_iadd X (by decide +kernel) ?_
  refine g_sld (i := i + 4) X S (nI_add _ _) (by omega) hL (by decide +kernel) ?_
  refine g_call2 (Kc := K1) (hc := h1) (hc' := h1') (h' := mg m h1' h2) X O [.int (xs (i + 1)), .int (xs (i + 2)), .int (xs (i + 3)), .int (xs (i + 4))] (by decide +kernel) mlL_45 ex rfl rfl (by decide) (Nat.le_of_ble_eq_true rfl) hcs (mg_w1 s1) (mg_w2 s1) (c0_state (n := 5000) E1 x (xs (i + 1)) (xs (i + 2)) (xs (i + 3)) (xs (i + 4)) h1 ex e1) ?_
  refine g_aload_n (n := 2) X (by decide +kernel) 2 rfl ?_
  refine g_aload_n (n := 0) X (by decide +kernel) 0 rfl ?_
  refine g_iload_n (n := 3) X (by decide +kernel) 3 rfl ?_
  refine g_iconst (n := 1) (x := nI 1) X (by decide +kernel) (by decide) ?_
  refine g_iadd X (by decide +kernel) ?_
  refine g_sld (i := i + 1) X S (nI_add _ _) (by omega) hL (by decide +kernel) ?_
  refine g_aload_n (n := 0) X (by decide +kernel) 0 rfl ?_
  refine g_iload_n (n := 3) X (by decide +kernel) 3 rfl ?_
  refine g_iconst (n := 2) (x := nI 2) X (by decide +kernel) (by decide) ?_
  refine g_iadd X (by decide +kernel) ?_
  refine g_sld (i := i + 2) X S (nI_add _ _) (by omega) hL (by decide +kernel) ?_
  refine g_aload_n (n := 0) X (by decide +kernel) 0 rfl ?_
  refine g_iload_n (n := 3) X (by decide +kernel) 3 rfl ?_
  refine g_iconst (n := 3) (x := nI 3) X (by decide +kernel) (by decide) ?_
  refine g_iadd X (by decide +kernel) ?_
  refine g_sld (i := i + 3) X S (nI_add _ _) (by omega) hL (by decide +kernel) ?_
  refine g_aload_n (n := 0) X (by decide +kernel) 0 rfl ?_
  refine g_iload_n (n := 3) X (by decide +kernel) 3 rfl ?_
  refine g_iconst (n := 4) (x := nI 4) X (by decide +kernel) (by decide) ?_
  refine g_iadd X (by decide +kernel) ?_
  refine g_sld (i := i + 4) X S (nI_add _ _) (by omega) hL (by decide +kernel) ?_
  refine g_call2 (Kc := K2) (hc := h2) (hc' := h2') (h' := mg m h1' h2') X O [.int (xs (i + 1)), .int (xs (i + 2)), .int (xs (i + 3)), .int (xs (i + 4))] (by decide +kernel) mlL_49 em rfl rfl (by decide) (Nat.le_of_ble_eq_true rfl) hcs (mg_w3 s2) (mg_w4 s2) (c11_state (n := 5000) E2 m (xs (i + 1)) (xs (i + 2)) (xs (i + 3)) (xs (i + 4)) h2 em e2) ?_
  exact g_icmp_eq_t (off := 773) (tgt := 1216) X (by decide +kernel) (by decide) rfl (kk h1' h2' v')
