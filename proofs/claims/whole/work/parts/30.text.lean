/-! String constants and the table of verbs -/
def slen (i : Nat) : Int32 := Int32.ofNat (es_len.getD i 0)
def sch (i : Nat) (k : Int32) : Int32 := (es_byt.getD i []).getD k.toNatClampNeg 0
def vrb (k : Int32) : Int32 := ([0, 6, 11, 13] : List Int32).getD k.toNatClampNeg 0
theorem slen_sh : ∀ i, i < 24 → (slen i >>> ((0 : Int32) &&& 31)) = slen i := by decide +kernel
theorem sch_n : ∀ i, i < 24 → ∀ j, j < es_len.getD i 0 → ((((es_byt.getD i []).getD j 0) &&& 255).toUInt32 % 65536).toInt32 = (es_byt.getD i []).getD j 0 ∧ narrow .char (.int ((es_byt.getD i []).getD j 0)) = .int ((es_byt.getD i []).getD j 0) := by decide +kernel
section Text
variable {Γ : CT} {sp : Sp} {cc : ByteArray} {own : String} {nL : Nat} {ret : Option FieldType} {lev : Nat} {v : Option Value} {zf : Nat} {Kf : Ly} {hf : Hp} {cs : Nat × Nat} {pc : Nat} {lv : List (Nat × Value)} {st : List Value} {sz : Nat} {K : Ly} {h : Hp}
theorem g_ldcS (X : Ok Γ sp cc own nL ret lev v zf Kf hf) {idx i : Nat} (d : decode cc pc = .ok (.ldc idx, 2)) (ho : own = "AskedNames$Reader") (hi : i < 24) (hx : es_ix.getD i 0 = idx) (kk : Go Γ cs (pc + 2) lv (.ref (sp.1 i) :: st) sz K h) : Go Γ cs pc lv st sz K h := by
  subst ho; subst hx
  obtain ⟨⟨p, l, e, R, s, m, args, below, meth, c⟩, D, cA, A, sp0, nL0, mc, ms, v0, zf0, Kf0, hf0⟩ := Γ
  obtain ⟨hx, hb, -, -, -, hown, hts, -, hE, -, -, -, -, -, rfl⟩ := X
  intro H locs ls hl hR hS
  exact va_ldcS hx hb hown (hE.2.2.2.1 i hi) d (kk H locs ls hl hR hS)
theorem g_compact (X : Ok Γ sp cc own nL ret lev v zf Kf hf) {idx : Nat} (d : decode cc pc = .ok (.getstatic idx, 3)) (hw : Cond.fieldLink own idx "java/lang/String" "COMPACT_STRINGS" "Z" ∈ lw_g) (kk : Go Γ cs (pc + 3) lv (.int 1 :: st) sz K h) : Go Γ cs pc lv st sz K h := by
  obtain ⟨⟨p, l, e, R, s, m, args, below, meth, c⟩, D, cA, A, sp0, nL0, mc, ms, v0, zf0, Kf0, hf0⟩ := Γ
  obtain ⟨hx, hb, -, -, -, hown, hts, -, hE, -⟩ := X
  intro H locs ls hl hR hS
  exact va_gets hx hb hE.2.2.2.2.2.2.1 hS hown (hts _ hw) (fun _ h => h) d (kk H locs ls hl hR hS)
theorem g_verbs (X : Ok Γ sp cc own nL ret lev v zf Kf hf) {idx : Nat} (d : decode cc pc = .ok (.getstatic idx, 3)) (hw : Cond.fieldLink own idx "AskedNames$Reader" "VERBS" "[I" ∈ lw_g) (kk : Go Γ cs (pc + 3) lv (.ref sp.2.2 :: st) sz K h) : Go Γ cs pc lv st sz K h := by
  obtain ⟨⟨p, l, e, R, s, m, args, below, meth, c⟩, D, cA, A, sp0, nL0, mc, ms, v0, zf0, Kf0, hf0⟩ := Γ
  obtain ⟨hx, hb, -, -, -, hown, hts, -, hE, -, -, -, -, -, rfl⟩ := X
  intro H locs ls hl hR hS
  exact va_gets hx hb hE.2.2.2.2.1 hS hown (hts _ hw) (fun _ h => h) d (kk H locs ls hl hR hS)
theorem g_sioobe (X : Ok Γ sp cc own nL ret lev v zf Kf hf) {idx : Nat} (d : decode cc pc = .ok (.getstatic idx, 3)) (hw : Cond.fieldLink own idx "jdk/internal/util/Preconditions" "SIOOBE_FORMATTER" "Ljava/util/function/BiFunction;" ∈ lw_g) (kk : ∀ q : Option Nat, Go Γ cs (pc + 3) lv (va_rf q :: st) sz K h) : Go Γ cs pc lv st sz K h := by
  obtain ⟨⟨p, l, e, R, s, m, args, below, meth, c⟩, D, cA, A, sp0, nL0, mc, ms, v0, zf0, Kf0, hf0⟩ := Γ
  obtain ⟨hx, hb, -, -, -, hown, hts, -, hE, -⟩ := X
  intro H locs ls hl hR hS
  obtain ⟨q, hq⟩ := hE.2.2.2.2.2.2.2
  exact va_gets hx hb hq hS hown (hts _ hw) (fun _ h => h) d (kk q H locs ls hl hR hS)
theorem g_scoder (X : Ok Γ sp cc own nL ret lev v zf Kf hf) {idx i : Nat} (d : decode cc pc = .ok (.getfield idx, 3)) (hi : i < 24) (hw : Cond.fieldLink own idx "java/lang/String" "coder" "B" ∈ lw_g) (kk : Go Γ cs (pc + 3) lv (.int 0 :: st) sz K h) : Go Γ cs pc lv (.ref (sp.1 i) :: st) sz K h := by
  obtain ⟨⟨p, l, e, R, s, m, args, below, meth, c⟩, D, cA, A, sp0, nL0, mc, ms, v0, zf0, Kf0, hf0⟩ := Γ
  obtain ⟨hx, hb, -, -, -, hown, hts, -, hE, -, -, -, -, -, rfl⟩ := X
  intro H locs ls hl hR hS
  exact vk_getf hx hb (hE.2.2.1.1 i hi).2.1 hS hown (hts _ hw) (fun _ h => h) d (kk H locs ls hl hR hS)
theorem g_svalue (X : Ok Γ sp cc own nL ret lev v zf Kf hf) {idx i : Nat} (d : decode cc pc = .ok (.getfield idx, 3)) (hi : i < 24) (hw : Cond.fieldLink own idx "java/lang/String" "value" "[B" ∈ lw_g) (kk : Go Γ cs (pc + 3) lv (.ref (sp.2.1 i) :: st) sz K h) : Go Γ cs pc lv (.ref (sp.1 i) :: st) sz K h := by
  obtain ⟨⟨p, l, e, R, s, m, args, below, meth, c⟩, D, cA, A, sp0, nL0, mc, ms, v0, zf0, Kf0, hf0⟩ := Γ
  obtain ⟨hx, hb, -, -, -, hown, hts, -, hE, -, -, -, -, -, rfl⟩ := X
  intro H locs ls hl hR hS
  exact vk_getf hx hb (hE.2.2.1.1 i hi).2.2.1 hS hown (hts _ hw) (fun _ h => h) d (kk H locs ls hl hR hS)
theorem g_salen (X : Ok Γ sp cc own nL ret lev v zf Kf hf) {i : Nat} (d : decode cc pc = .ok (.arraylength, 1)) (hi : i < 24) (kk : Go Γ cs (pc + 1) lv (.int (slen i) :: st) sz K h) : Go Γ cs pc lv (.ref (sp.2.1 i) :: st) sz K h := by
  obtain ⟨⟨p, l, e, R, s, m, args, below, meth, c⟩, D, cA, A, sp0, nL0, mc, ms, v0, zf0, Kf0, hf0⟩ := Γ
  obtain ⟨hx, hb, -, -, -, hown, hts, -, hE, -, -, -, -, -, rfl⟩ := X
  intro H locs ls hl hR hS
  obtain ⟨cell, h1, h2, h3, h4, h5, h6, h7⟩ := (hE.2.2.1.1 i hi).2.2.2.kept hS.2.1
  exact W.alen hx hb h1 h2 h5 rfl rfl d (kk H locs ls hl hR hS)
theorem g_sbald (X : Ok Γ sp cc own nL ret lev v zf Kf hf) {i : Nat} {k : Int32} (d : decode cc pc = .ok (.baload, 1)) (hi : i < 24) (hk : inb k (es_len.getD i 0) = true) (kk : Go Γ cs (pc + 1) lv (.int ((es_byt.getD i []).getD k.toNatClampNeg 0) :: st) sz K h) : Go Γ cs pc lv (.int k :: .ref (sp.2.1 i) :: st) sz K h := by
  obtain ⟨⟨p, l, e, R, s, m, args, below, meth, c⟩, D, cA, A, sp0, nL0, mc, ms, v0, zf0, Kf0, hf0⟩ := Γ
  obtain ⟨hx, hb, -, -, -, hown, hts, -, hE, -, -, -, -, -, rfl⟩ := X
  intro H locs ls hl hR hS
  obtain ⟨cell, h1, h2, h3, h4, h5, h6, h7⟩ := (hE.2.2.1.1 i hi).2.2.2.kept hS.2.1
  have hin := inb_in hk
  have hlt : k.toNatClampNeg < es_len.getD i 0 := Nat.not_le.mp fun q => hin (Or.inr q)
  exact W.bald hx hb h1 h2 h3 (fun z => z.elim (fun z => hin (Or.inl z)) (fun z => absurd (Nat.le_trans h4 z) (Nat.not_le.mpr hlt))) (h6 _ hlt) rfl rfl d (kk H locs ls hl hR hS)
theorem g_vald (X : Ok Γ sp cc own nL ret lev v zf Kf hf) {k : Int32} (d : decode cc pc = .ok (.iaload, 1)) (hk : inb k 4 = true) (kk : Go Γ cs (pc + 1) lv (.int (vrb k) :: st) sz K h) : Go Γ cs pc lv (.int k :: .ref sp.2.2 :: st) sz K h := by
  obtain ⟨⟨p, l, e, R, s, m, args, below, meth, c⟩, D, cA, A, sp0, nL0, mc, ms, v0, zf0, Kf0, hf0⟩ := Γ
  obtain ⟨hx, hb, -, -, -, hown, hts, -, hE, -, -, -, -, -, rfl⟩ := X
  intro H locs ls hl hR hS
  obtain ⟨cell, h1, h2, h3, h4, h5, h6, h7⟩ := hE.2.2.2.2.2.1.kept hS.2.1
  have hin := inb_in hk
  have hlt : k.toNatClampNeg < 4 := Nat.not_le.mp fun q => hin (Or.inr q)
  exact W.iald hx hb h1 h2 h3 (fun z => z.elim (fun z => hin (Or.inl z)) (fun z => absurd (Nat.le_trans h4 z) (Nat.not_le.mpr hlt))) (h6 _ hlt) rfl rfl d (kk H locs ls hl hR hS)
theorem g_i2c (X : Ok Γ sp cc own nL ret lev v zf Kf hf) {x : Int32} (d : decode cc pc = .ok (.i2c, 1)) (k : Go Γ cs (pc + 1) lv (.int ((x.toUInt32 % 65536).toInt32) :: st) sz K h) : Go Γ cs pc lv (.int x :: st) sz K h := by
  obtain ⟨⟨p, l, e, R, s, m, args, below, meth, c⟩, D, cA, A, sp0, nL0, mc, ms, v0, zf0, Kf0, hf0⟩ := Γ
  obtain ⟨hx, hb, -⟩ := X
  intro H locs ls hl hR hS
  exact lv_i2c hx hb d rfl (k H locs ls hl hR hS)
/-- a call of a text's own method -/
theorem g_callT (X : Ok Γ sp cc own nL ret lev v zf Kf hf) {i idx n2 lev2 : Nat} {y : MethodName} {b : ByteArray} {ret2 : Option FieldType} {x : Value} {h' : Hp} (As : List Value) (d : decode cc pc = .ok (.invokevirtual idx, 3)) (L : MLk 0 own idx y b n2 ret2 As.length) (hi : i < 24) (hy : y.cls = "java/lang/String") (hlev : lev2 < lev) (hst : (st.map fun v => v.category).sum ≤ 8) (hM : Con sp y b n2 ret2 lev2 0 0 (.ref (sp.1 i) :: As) sz K h (some x) sz K h') (kk : Go Γ (0, 0) (pc + 3) lv (x :: st) sz K h') : Go Γ (0, 0) pc lv (As.reverse ++ .ref (sp.1 i) :: st) sz K h := by
  obtain ⟨⟨p, l, e, R, s, m, args, below, meth, c⟩, D, cA, A, sp0, nL0, mc, ms, v0, zf0, Kf0, hf0⟩ := Γ
  obtain ⟨hx, hb, hml, rfl, -, hown, hts, -, hE, ⟨hR1, hR2, -, -⟩, -, -, -, -, rfl⟩ := X
  intro H locs ls hl hR hS
  obtain ⟨hcode, hini, hlink, hd, hn21, hin, hsel⟩ := L
  have hpre : PreV s H y.cls (sp0.1 i) (fun args U => args = (Value.ref (sp0.1 i) :: As).toArray ∧ KE D cA A sp0 U U.heap ∧ REL D cA A sz K h U.heap) As := ⟨pre_blind, by rw [hy]; exact vk_recv hE.2.2.1 hi hS, fun U hU hW => ⟨rfl, by rw [hU]; exact hE.warm hW hS.2.1, by rw [hU]; exact hR⟩⟩
  have hRm : (rmL lev2 0 0).frames + 1 ≤ R.frames ∧ 8 + (n2 + 11) + (rmL lev2 0 0).locals ≤ R.locals := ⟨Nat.le_trans hlev hR1, Nat.le_trans (by show 8 + (n2 + 11) + 40 * lev2 ≤ 40 * lev; omega) hR2⟩
  have hM2 := hM l D cA A (fun h => absurd h (Nat.lt_irrefl 0))
  rcases hlink with hlink | ⟨host, hlink⟩
  · exact run_go (va_runV (own := own) (n := As.length) (Ts := lw_g) ⟨hx, hb, hml, hown, hts⟩ hM2 ⟨callB_of As.length hts (good_ws hcode) rfl rfl rfl (hts _ hini) (hts _ hlink) hd hRm, hts _ hin, hts _ hsel⟩ hpre rfl rfl hl.1 rfl (lv_room hst) d ⟨Nat.zero_le _, Nat.zero_le _⟩) hS (fun H1 locs1 hr1 hs1 => kk H1 locs1 ls hl hr1 hs1)
  · exact run_go (va_runVN (own := own) (n := As.length) (Ts := lw_g) ⟨hx, hb, hml, hown, hts⟩ hM2 ⟨va_cnB As.length hts (good_ws hcode) rfl rfl rfl (hE.2.1 _ hlink rfl) (hts _ hini) hd hRm, hts _ hin, hts _ hsel⟩ hpre rfl rfl hl.1 rfl (lv_room hst) d ⟨Nat.zero_le _, Nat.zero_le _⟩) hS (fun H1 locs1 hr1 hs1 => kk H1 locs1 ls hl hr1 hs1)
theorem g_sreturn {x : Nat} {ty : FieldType} (X : Ok Γ sp cc own nL (some ty) lev (some (.ref x)) sz K h) (d : decode cc pc = .ok (.areturn, 1)) (hrt : (∃ n, ty = .object n) ∨ ∃ t, ty = .array t) : Go Γ (0, 0) pc lv [.ref x] sz K h := g_areturn (x := some x) X d hrt
end Text
set_option maxRecDepth 100000 in
theorem cs_coder {sp : Sp} {K : Ly} {sz : Nat} (h : Hp) (i : Nat) (hi : i < 24) : Con sp yJString_coder prog_17_method_152_code 1 (some (.byte)) 1 0 0 [.ref (sp.1 i)] sz K h (some (.int 0)) sz K h := by
  refine Con.of (by decide) (Nat.le_of_ble_eq_true rfl) (fun Γ X _ => ?_)
  show Go Γ (0, 0) 0 [(0, .ref (sp.1 i))] [] sz K h
  refine g_compact (idx := 38) X (by decide +kernel) (in_c3 148 rfl rfl) ?_
  refine g_if_eq_f (off := 10) (tgt := 13) X (by decide +kernel) (by decide) (by decide) ?_
  refine g_aload_n (n := 0) X (by decide +kernel) 0 rfl ?_
  refine g_scoder (idx := 15) X (by decide +kernel) hi (in_c9 17 rfl rfl) ?_
  refine g_goto (off := 4) (tgt := 14) X (by decide +kernel) (by decide) ?_
  exact g_zreturn X (by decide +kernel) rfl
set_option maxRecDepth 100000 in
theorem cs_latin1 {sp : Sp} {K : Ly} {sz : Nat} (h : Hp) (i : Nat) (hi : i < 24) : Con sp yJString_isLatin1 prog_17_method_154_code 1 (some (.boolean)) 1 0 0 [.ref (sp.1 i)] sz K h (some (.int 1)) sz K h := by
  refine Con.of (by decide) (Nat.le_of_ble_eq_true rfl) (fun Γ X _ => ?_)
  show Go Γ (0, 0) 0 [(0, .ref (sp.1 i))] [] sz K h
  refine g_compact (idx := 38) X (by decide +kernel) (in_c3 148 rfl rfl) ?_
  refine g_if_eq_f (off := 14) (tgt := 17) X (by decide +kernel) (by decide) (by decide) ?_
  refine g_aload_n (n := 0) X (by decide +kernel) 0 rfl ?_
  refine g_scoder (idx := 15) X (by decide +kernel) hi (in_c9 17 rfl rfl) ?_
  refine g_if_ne_f (off := 7) (tgt := 17) X (by decide +kernel) (by decide) (by decide) ?_
  refine g_iconst (n := 1) (x := (1 : Int32)) X (by decide +kernel) (by decide) ?_
  refine g_goto (off := 4) (tgt := 18) X (by decide +kernel) (by decide) ?_
  exact g_zreturn X (by decide +kernel) rfl
set_option maxRecDepth 100000 in
theorem cs_length {sp : Sp} {K : Ly} {sz : Nat} (h : Hp) (i : Nat) (hi : i < 24) : Con sp yJString_length prog_17_method_54_code 1 (some (.int)) 2 0 0 [.ref (sp.1 i)] sz K h (some (.int (slen i))) sz K h := by
  refine Con.of (by decide) (Nat.le_of_ble_eq_true rfl) (fun Γ X _ => ?_)
  show Go Γ (0, 0) 0 [(0, .ref (sp.1 i))] [] sz K h
  refine g_aload_n (n := 0) X (by decide +kernel) 0 rfl ?_
  refine g_svalue (idx := 9) X (by decide +kernel) hi (in_c9 16 rfl rfl) ?_
  refine g_salen X (by decide +kernel) hi ?_
  refine g_aload_n (n := 0) X (by decide +kernel) 0 rfl ?_
  refine g_callT (st := [.int (slen i)]) X [] (by decide +kernel) mlJString_335 hi rfl (by decide) (Nat.le_of_ble_eq_true rfl) (cs_coder h i hi) ?_
  refine g_ishr X (by decide +kernel) ?_
  rw [slen_sh i hi]
  exact g_ireturn X (by decide +kernel)
set_option maxRecDepth 100000 in
theorem cs_pre {sp : Sp} {K : Ly} {sz : Nat} (h : Hp) (k n : Int32) (q : Option Nat) (h0 : ¬ k < 0) (h1 : k < n) : Con sp yJPreconditions_checkIndex prog_22_method_11_code 3 (some (.int)) 1 0 0 [.int k, .int n, va_rf q] sz K h (some (.int k)) sz K h := by
  refine Con.of (by decide) (by cases q <;> exact Nat.le_of_ble_eq_true rfl) (fun Γ X _ => ?_)
  have e : lv_args 0 [.int k, .int n, va_rf q] = [(0, .int k), (1, .int n), (2, va_rf q)] := by cases q <;> rfl
  rw [e]
  refine g_iload_n (n := 0) X (by decide +kernel) 0 rfl ?_
  refine g_if_lt_f (off := 8) (tgt := 9) X (by decide +kernel) (by decide) h0 ?_
  refine g_iload_n (n := 0) X (by decide +kernel) 0 rfl ?_
  refine g_iload_n (n := 1) X (by decide +kernel) 1 rfl ?_
  refine g_icmp_lt_t (off := 10) (tgt := 16) X (by decide +kernel) (by decide) h1 ?_
  refine g_iload_n (n := 0) X (by decide +kernel) 0 rfl ?_
  exact g_ireturn X (by decide +kernel)
set_option maxRecDepth 100000 in
theorem cs_chk {sp : Sp} {K : Ly} {sz : Nat} (h : Hp) (k n : Int32) (h0 : ¬ k < 0) (h1 : k < n) : Con sp yJString_checkIndex prog_17_method_155_code 2 none 2 0 0 [.int k, .int n] sz K h none sz K h := by
  refine Con.of (by decide) (Nat.le_of_ble_eq_true rfl) (fun Γ X _ => ?_)
  show Go Γ (0, 0) 0 [(0, .int k), (1, .int n)] [] sz K h
  refine g_iload_n (n := 0) X (by decide +kernel) 0 rfl ?_
  refine g_iload_n (n := 1) X (by decide +kernel) 1 rfl ?_
  refine g_sioobe (idx := 1053) X (by decide +kernel) (in_c3 164 rfl rfl) (fun q => ?_)
  refine g_callS1 (st := []) X [.int k, .int n, va_rf q] (by decide +kernel) mlJString_1059 (by decide) (Nat.le_of_ble_eq_true rfl) (cs_pre h k n q h0 h1) ?_
  refine g_pop X (by decide +kernel) rfl ?_
  exact g_return X (by decide +kernel)
theorem sl_lt (i : Nat) (hi : i < 24) (k : Int32) (h0 : ¬ k < 0) (hlt : k.toNatClampNeg < es_len.getD i 0) : k < slen i := by
  have hl : es_len.getD i 0 < 2 ^ 31 := (show ∀ i, i < 24 → es_len.getD i 0 < 2 ^ 31 by decide +kernel) i hi
  obtain ⟨j, hj, rfl⟩ := nI_of h0
  rw [nI_clamp hj] at hlt
  exact nI_lt hlt hl
set_option maxRecDepth 100000 in
theorem cs_lchar {sp : Sp} {K : Ly} {sz : Nat} (h : Hp) (i : Nat) (hi : i < 24) (k : Int32) (hk : inb k (es_len.getD i 0) = true) : Con sp yJStringLatin1_charAt prog_18_method_2_code 2 (some (.char)) 3 0 0 [.ref (sp.2.1 i), .int k] sz K h (some (.int (sch i k))) sz K h := by
  have hin := inb_in hk
  have h0 : ¬ k < 0 := fun z => hin (Or.inl z)
  have hlt : k.toNatClampNeg < es_len.getD i 0 := Nat.not_le.mp fun q => hin (Or.inr q)
  have h1 : k < slen i := sl_lt i hi k h0 hlt
  refine Con.of (by decide) (Nat.le_of_ble_eq_true rfl) (fun Γ X _ => ?_)
  show Go Γ (0, 0) 0 [(0, .ref (sp.2.1 i)), (1, .int k)] [] sz K h
  refine g_iload_n (n := 1) X (by decide +kernel) 1 rfl ?_
  refine g_aload_n (n := 0) X (by decide +kernel) 0 rfl ?_
  refine g_salen X (by decide +kernel) hi ?_
  refine g_callS0 (st := []) X [.int k, .int (slen i)] (by decide +kernel) mlJStringLatin1_9 (by decide) (Nat.le_of_ble_eq_true rfl) (cs_chk h k (slen i) h0 h1) ?_
  refine g_aload_n (n := 0) X (by decide +kernel) 0 rfl ?_
  refine g_iload_n (n := 1) X (by decide +kernel) 1 rfl ?_
  refine g_sbald X (by decide +kernel) hi hk ?_
  refine g_sipush (n := 255) (x := (255 : Int32)) X (by decide +kernel) (by decide) ?_
  refine g_iand X (by decide +kernel) ?_
  refine g_i2c X (by decide +kernel) ?_
  rw [(sch_n i hi _ hlt).1]
  exact g_zreturn X (by decide +kernel) (sch_n i hi _ hlt).2
set_option maxRecDepth 100000 in
theorem cs_charAt {sp : Sp} {K : Ly} {sz : Nat} (h : Hp) (i : Nat) (hi : i < 24) (k : Int32) (hk : inb k (es_len.getD i 0) = true) : Con sp yJString_charAt prog_17_method_56_code 2 (some (.char)) 4 0 0 [.ref (sp.1 i), .int k] sz K h (some (.int (sch i k))) sz K h := by
  have hin := inb_in hk
  have h0 : ¬ k < 0 := fun z => hin (Or.inl z)
  have hlt : k.toNatClampNeg < es_len.getD i 0 := Nat.not_le.mp fun q => hin (Or.inr q)
  have h1 : k < slen i := sl_lt i hi k h0 hlt
  refine Con.of (by decide) (Nat.le_of_ble_eq_true rfl) (fun Γ X _ => ?_)
  show Go Γ (0, 0) 0 [(0, .ref (sp.1 i)), (1, .int k)] [] sz K h
  refine g_aload_n (n := 0) X (by decide +kernel) 0 rfl ?_
  refine g_callT (st := []) X [] (by decide +kernel) mlJString_492 hi rfl (by decide) (Nat.le_of_ble_eq_true rfl) (cs_latin1 h i hi) ?_
  refine g_if_eq_f (off := 12) (tgt := 16) X (by decide +kernel) (by decide) (by decide) ?_
  refine g_aload_n (n := 0) X (by decide +kernel) 0 rfl ?_
  refine g_svalue (idx := 9) X (by decide +kernel) hi (in_c9 16 rfl rfl) ?_
  refine g_iload_n (n := 1) X (by decide +kernel) 1 rfl ?_
  refine g_callS1 (st := []) X [.ref (sp.2.1 i), .int k] (by decide +kernel) mlJString_495 (by decide) (Nat.le_of_ble_eq_true rfl) (cs_lchar h i hi k hk) ?_
  exact g_zreturn X (by decide +kernel) (sch_n i hi _ hlt).2
