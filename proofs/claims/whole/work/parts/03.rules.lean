section Rules
variable {Γ : CT} {sp : Sp} {cc : ByteArray} {own : String} {nL : Nat} {ret : Option FieldType} {lev : Nat} {v : Option Value} {zf : Nat} {Kf : Ly} {hf : Hp} {cs : Nat × Nat} {pc : Nat} {lv : List (Nat × Value)} {st : List Value} {sz : Nat} {K : Ly} {h : Hp}
theorem g_iconst (X : Ok Γ sp cc own nL ret lev v zf Kf hf) {n : Int} {x : Int32} (d : decode cc pc = .ok (.iconst n, 1)) (hv : Int32.ofInt n = x) (k : Go Γ cs (pc + 1) lv (.int x :: st) sz K h) : Go Γ cs pc lv st sz K h := by
  obtain ⟨⟨p, l, e, R, s, m, args, below, meth, c⟩, D, cA, A, sp0, nL0, mc, ms, v0, zf0, Kf0, hf0⟩ := Γ
  obtain ⟨hx, hb, -⟩ := X
  intro H locs ls hl hR hS
  exact lv_iconst hx hb d hv (k H locs ls hl hR hS)
theorem g_bipush (X : Ok Γ sp cc own nL ret lev v zf Kf hf) {n : Int} {x : Int32} (d : decode cc pc = .ok (.bipush n, 2)) (hv : (Int8.ofInt n).toInt32 = x) (k : Go Γ cs (pc + 2) lv (.int x :: st) sz K h) : Go Γ cs pc lv st sz K h := by
  obtain ⟨⟨p, l, e, R, s, m, args, below, meth, c⟩, D, cA, A, sp0, nL0, mc, ms, v0, zf0, Kf0, hf0⟩ := Γ
  obtain ⟨hx, hb, -⟩ := X
  intro H locs ls hl hR hS
  exact lv_bipush hx hb d hv (k H locs ls hl hR hS)
theorem g_sipush (X : Ok Γ sp cc own nL ret lev v zf Kf hf) {n : Int} {x : Int32} (d : decode cc pc = .ok (.sipush n, 3)) (hv : (Int16.ofInt n).toInt32 = x) (k : Go Γ cs (pc + 3) lv (.int x :: st) sz K h) : Go Γ cs pc lv st sz K h := by
  obtain ⟨⟨p, l, e, R, s, m, args, below, meth, c⟩, D, cA, A, sp0, nL0, mc, ms, v0, zf0, Kf0, hf0⟩ := Γ
  obtain ⟨hx, hb, -⟩ := X
  intro H locs ls hl hR hS
  exact lv_sipush hx hb d hv (k H locs ls hl hR hS)
theorem g_lconst (X : Ok Γ sp cc own nL ret lev v zf Kf hf) {n : Fin 2} {x : Int64} (d : decode cc pc = .ok (.lconst n, 1)) (hv : Int64.ofNat (n : Nat) = x) (k : Go Γ cs (pc + 1) lv (.long x :: st) sz K h) : Go Γ cs pc lv st sz K h := by
  obtain ⟨⟨p, l, e, R, s, m, args, below, meth, c⟩, D, cA, A, sp0, nL0, mc, ms, v0, zf0, Kf0, hf0⟩ := Γ
  obtain ⟨hx, hb, -⟩ := X
  intro H locs ls hl hR hS
  exact lv_lconst hx hb d hv (k H locs ls hl hR hS)
theorem g_null (X : Ok Γ sp cc own nL ret lev v zf Kf hf)  (d : decode cc pc = .ok (.aconst_null, 1))  (k : Go Γ cs (pc + 1) lv (.null :: st) sz K h) : Go Γ cs pc lv st sz K h := by
  obtain ⟨⟨p, l, e, R, s, m, args, below, meth, c⟩, D, cA, A, sp0, nL0, mc, ms, v0, zf0, Kf0, hf0⟩ := Γ
  obtain ⟨hx, hb, -⟩ := X
  intro H locs ls hl hR hS
  exact lv_null hx hb d  (k H locs ls hl hR hS)
theorem g_ldc (X : Ok Γ sp cc own nL ret lev v zf Kf hf) {index : Nat} {x : Int32} (d : decode cc pc = .ok (.ldc index, 2)) (hw : Cond.constant own index x ∈ lw_g) (k : Go Γ cs (pc + 2) lv (.int x :: st) sz K h) : Go Γ cs pc lv st sz K h := by
  obtain ⟨⟨p, l, e, R, s, m, args, below, meth, c⟩, D, cA, A, sp0, nL0, mc, ms, v0, zf0, Kf0, hf0⟩ := Γ
  obtain ⟨hx, hb, -, -, -, hown, hts, -⟩ := X
  intro H locs ls hl hR hS
  exact lv_ldc hx hb hown (hts _ hw) d (k H locs ls hl hR hS)
theorem g_ldc_w (X : Ok Γ sp cc own nL ret lev v zf Kf hf) {index : Nat} {x : Int32} (d : decode cc pc = .ok (.ldc_w index, 3)) (hw : Cond.constant own index x ∈ lw_g) (k : Go Γ cs (pc + 3) lv (.int x :: st) sz K h) : Go Γ cs pc lv st sz K h := by
  obtain ⟨⟨p, l, e, R, s, m, args, below, meth, c⟩, D, cA, A, sp0, nL0, mc, ms, v0, zf0, Kf0, hf0⟩ := Γ
  obtain ⟨hx, hb, -, -, -, hown, hts, -⟩ := X
  intro H locs ls hl hR hS
  exact lv_ldcw hx hb hown (hts _ hw) d (k H locs ls hl hR hS)
theorem g_ldc2_w (X : Ok Γ sp cc own nL ret lev v zf Kf hf) {index : Nat} {x : Int64} (d : decode cc pc = .ok (.ldc2_w index, 3)) (hw : Cond.constantLong own index x ∈ lw_g) (k : Go Γ cs (pc + 3) lv (.long x :: st) sz K h) : Go Γ cs pc lv st sz K h := by
  obtain ⟨⟨p, l, e, R, s, m, args, below, meth, c⟩, D, cA, A, sp0, nL0, mc, ms, v0, zf0, Kf0, hf0⟩ := Γ
  obtain ⟨hx, hb, -, -, -, hown, hts, -⟩ := X
  intro H locs ls hl hR hS
  exact lv_ldc2 hx hb hown (hts _ hw) d (k H locs ls hl hR hS)
theorem g_iload_n (X : Ok Γ sp cc own nL ret lev v zf Kf hf) {n : Fin 4} {x : Int32} (d : decode cc pc = .ok (.iload_n n, 1)) (j : Nat) (hj : lv[j]? = some ((n : Nat), .int x)) (k : Go Γ cs (pc + 1) lv (.int x :: st) sz K h) : Go Γ cs pc lv st sz K h := by
  obtain ⟨⟨p, l, e, R, s, m, args, below, meth, c⟩, D, cA, A, sp0, nL0, mc, ms, v0, zf0, Kf0, hf0⟩ := Γ
  obtain ⟨hx, hb, -, hn, -⟩ := X
  intro H locs ls hl hR hS
  exact lv_iload_n hx hb d rfl (lv_at hl j hj) (k H locs ls hl hR hS)
theorem g_iload (X : Ok Γ sp cc own nL ret lev v zf Kf hf) {n : Nat} {x : Int32} (d : decode cc pc = .ok (.iload n, 2)) (j : Nat) (hj : lv[j]? = some (n, .int x)) (k : Go Γ cs (pc + 2) lv (.int x :: st) sz K h) : Go Γ cs pc lv st sz K h := by
  obtain ⟨⟨p, l, e, R, s, m, args, below, meth, c⟩, D, cA, A, sp0, nL0, mc, ms, v0, zf0, Kf0, hf0⟩ := Γ
  obtain ⟨hx, hb, -, hn, -⟩ := X
  intro H locs ls hl hR hS
  exact lv_iload hx hb d (lv_at hl j hj) (k H locs ls hl hR hS)
theorem g_lload_n (X : Ok Γ sp cc own nL ret lev v zf Kf hf) {n : Fin 4} {x : Int64} (d : decode cc pc = .ok (.lload_n n, 1)) (j : Nat) (hj : lv[j]? = some ((n : Nat), .long x)) (k : Go Γ cs (pc + 1) lv (.long x :: st) sz K h) : Go Γ cs pc lv st sz K h := by
  obtain ⟨⟨p, l, e, R, s, m, args, below, meth, c⟩, D, cA, A, sp0, nL0, mc, ms, v0, zf0, Kf0, hf0⟩ := Γ
  obtain ⟨hx, hb, -, hn, -⟩ := X
  intro H locs ls hl hR hS
  exact lv_lload_n hx hb d rfl (lv_at hl j hj) (k H locs ls hl hR hS)
theorem g_lload (X : Ok Γ sp cc own nL ret lev v zf Kf hf) {n : Nat} {x : Int64} (d : decode cc pc = .ok (.lload n, 2)) (j : Nat) (hj : lv[j]? = some (n, .long x)) (k : Go Γ cs (pc + 2) lv (.long x :: st) sz K h) : Go Γ cs pc lv st sz K h := by
  obtain ⟨⟨p, l, e, R, s, m, args, below, meth, c⟩, D, cA, A, sp0, nL0, mc, ms, v0, zf0, Kf0, hf0⟩ := Γ
  obtain ⟨hx, hb, -, hn, -⟩ := X
  intro H locs ls hl hR hS
  exact lv_lload hx hb d (lv_at hl j hj) (k H locs ls hl hR hS)
theorem g_aload_n (X : Ok Γ sp cc own nL ret lev v zf Kf hf) {n : Fin 4} {x : Nat} (d : decode cc pc = .ok (.aload_n n, 1)) (j : Nat) (hj : lv[j]? = some ((n : Nat), .ref x)) (k : Go Γ cs (pc + 1) lv (.ref x :: st) sz K h) : Go Γ cs pc lv st sz K h := by
  obtain ⟨⟨p, l, e, R, s, m, args, below, meth, c⟩, D, cA, A, sp0, nL0, mc, ms, v0, zf0, Kf0, hf0⟩ := Γ
  obtain ⟨hx, hb, -, hn, -⟩ := X
  intro H locs ls hl hR hS
  exact lv_aload_n hx hb d rfl (lv_at hl j hj) (k H locs ls hl hR hS)
theorem g_aload (X : Ok Γ sp cc own nL ret lev v zf Kf hf) {n : Nat} {x : Nat} (d : decode cc pc = .ok (.aload n, 2)) (j : Nat) (hj : lv[j]? = some (n, .ref x)) (k : Go Γ cs (pc + 2) lv (.ref x :: st) sz K h) : Go Γ cs pc lv st sz K h := by
  obtain ⟨⟨p, l, e, R, s, m, args, below, meth, c⟩, D, cA, A, sp0, nL0, mc, ms, v0, zf0, Kf0, hf0⟩ := Γ
  obtain ⟨hx, hb, -, hn, -⟩ := X
  intro H locs ls hl hR hS
  exact lv_aload hx hb d (lv_at hl j hj) (k H locs ls hl hR hS)
theorem g_qload_n (X : Ok Γ sp cc own nL ret lev v zf Kf hf) {n : Fin 4} {x : Option Nat} (d : decode cc pc = .ok (.aload_n n, 1)) (j : Nat) (hj : lv[j]? = some ((n : Nat), va_rf x)) (k : Go Γ cs (pc + 1) lv (va_rf x :: st) sz K h) : Go Γ cs pc lv st sz K h := by
  obtain ⟨⟨p, l, e, R, s, m, args, below, meth, c⟩, D, cA, A, sp0, nL0, mc, ms, v0, zf0, Kf0, hf0⟩ := Γ
  obtain ⟨hx, hb, -, hn, -⟩ := X
  intro H locs ls hl hR hS
  cases x with
  | none => exact lv_aload_nN hx hb d rfl (lv_at hl j hj) (k H locs ls hl hR hS)
  | some x => exact lv_aload_n hx hb d rfl (lv_at hl j hj) (k H locs ls hl hR hS)
theorem g_qload (X : Ok Γ sp cc own nL ret lev v zf Kf hf) {n : Nat} {x : Option Nat} (d : decode cc pc = .ok (.aload n, 2)) (j : Nat) (hj : lv[j]? = some (n, va_rf x)) (k : Go Γ cs (pc + 2) lv (va_rf x :: st) sz K h) : Go Γ cs pc lv st sz K h := by
  obtain ⟨⟨p, l, e, R, s, m, args, below, meth, c⟩, D, cA, A, sp0, nL0, mc, ms, v0, zf0, Kf0, hf0⟩ := Γ
  obtain ⟨hx, hb, -, hn, -⟩ := X
  intro H locs ls hl hR hS
  cases x with
  | none => exact lv_aloadN hx hb d (lv_at hl j hj) (k H locs ls hl hR hS)
  | some x => exact lv_aload hx hb d (lv_at hl j hj) (k H locs ls hl hR hS)
theorem g_istore_n (X : Ok Γ sp cc own nL ret lev v zf Kf hf) {n : Fin 4} {i : Nat} {x : Int32} {lv2 : List (Nat × Value)} (d : decode cc pc = .ok (.istore_n n, 1)) (hi : (n : Nat) = i) (hn : i < nL) (ks : List Nat) (hl2 : lv_pick ((i, Value.int x) :: lv.filter (fun q => !(q.1 == i) && !(q.1 + 1 == i && q.2.category == 2))) ks = lv2) (k : Go Γ cs (pc + 1) lv2 st sz K h) : Go Γ cs pc lv (.int x :: st) sz K h := by
  obtain ⟨⟨p, l, e, R, s, m, args, below, meth, c⟩, D, cA, A, sp0, nL0, mc, ms, v0, zf0, Kf0, hf0⟩ := Γ
  obtain ⟨hx, hb, -, hn0, -⟩ := X
  subst hn0
  intro H locs ls hl hR hS
  exact lv_istore_n hx hb d hi hl hn rfl (fun ls2 hls => k H locs ls2 (lv_sub hls ks hl2) hR hS)
theorem g_istore (X : Ok Γ sp cc own nL ret lev v zf Kf hf)  {i : Nat} {x : Int32} {lv2 : List (Nat × Value)} (d : decode cc pc = .ok (.istore i, 2))  (hn : i < nL) (ks : List Nat) (hl2 : lv_pick ((i, Value.int x) :: lv.filter (fun q => !(q.1 == i) && !(q.1 + 1 == i && q.2.category == 2))) ks = lv2) (k : Go Γ cs (pc + 2) lv2 st sz K h) : Go Γ cs pc lv (.int x :: st) sz K h := by
  obtain ⟨⟨p, l, e, R, s, m, args, below, meth, c⟩, D, cA, A, sp0, nL0, mc, ms, v0, zf0, Kf0, hf0⟩ := Γ
  obtain ⟨hx, hb, -, hn0, -⟩ := X
  subst hn0
  intro H locs ls hl hR hS
  exact lv_istore hx hb d hl hn rfl (fun ls2 hls => k H locs ls2 (lv_sub hls ks hl2) hR hS)
theorem g_astore_n (X : Ok Γ sp cc own nL ret lev v zf Kf hf) {n : Fin 4} {i : Nat} {x : Nat} {lv2 : List (Nat × Value)} (d : decode cc pc = .ok (.astore_n n, 1)) (hi : (n : Nat) = i) (hn : i < nL) (ks : List Nat) (hl2 : lv_pick ((i, Value.ref x) :: lv.filter (fun q => !(q.1 == i) && !(q.1 + 1 == i && q.2.category == 2))) ks = lv2) (k : Go Γ cs (pc + 1) lv2 st sz K h) : Go Γ cs pc lv (.ref x :: st) sz K h := by
  obtain ⟨⟨p, l, e, R, s, m, args, below, meth, c⟩, D, cA, A, sp0, nL0, mc, ms, v0, zf0, Kf0, hf0⟩ := Γ
  obtain ⟨hx, hb, -, hn0, -⟩ := X
  subst hn0
  intro H locs ls hl hR hS
  exact lv_astore_n hx hb d hi hl hn rfl (fun ls2 hls => k H locs ls2 (lv_sub hls ks hl2) hR hS)
theorem g_astore (X : Ok Γ sp cc own nL ret lev v zf Kf hf)  {i : Nat} {x : Nat} {lv2 : List (Nat × Value)} (d : decode cc pc = .ok (.astore i, 2))  (hn : i < nL) (ks : List Nat) (hl2 : lv_pick ((i, Value.ref x) :: lv.filter (fun q => !(q.1 == i) && !(q.1 + 1 == i && q.2.category == 2))) ks = lv2) (k : Go Γ cs (pc + 2) lv2 st sz K h) : Go Γ cs pc lv (.ref x :: st) sz K h := by
  obtain ⟨⟨p, l, e, R, s, m, args, below, meth, c⟩, D, cA, A, sp0, nL0, mc, ms, v0, zf0, Kf0, hf0⟩ := Γ
  obtain ⟨hx, hb, -, hn0, -⟩ := X
  subst hn0
  intro H locs ls hl hR hS
  exact lv_astore hx hb d hl hn rfl (fun ls2 hls => k H locs ls2 (lv_sub hls ks hl2) hR hS)
theorem g_lstore_n (X : Ok Γ sp cc own nL ret lev v zf Kf hf) {n : Fin 4} {i : Nat} {x : Int64} {lv2 : List (Nat × Value)} (d : decode cc pc = .ok (.lstore_n n, 1)) (hi : (n : Nat) = i) (hn : i + 1 < nL) (ks : List Nat) (hl2 : lv_pick ((i, Value.long x) :: lv.filter (fun q => !(q.1 == i) && (!(q.1 == i + 1) && !(q.1 + 1 == i && q.2.category == 2)))) ks = lv2) (k : Go Γ cs (pc + 1) lv2 st sz K h) : Go Γ cs pc lv (.long x :: st) sz K h := by
  obtain ⟨⟨p, l, e, R, s, m, args, below, meth, c⟩, D, cA, A, sp0, nL0, mc, ms, v0, zf0, Kf0, hf0⟩ := Γ
  obtain ⟨hx, hb, -, hn0, -⟩ := X
  subst hn0
  intro H locs ls hl hR hS
  exact lv_lstore_n hx hb d hi hl hn rfl (fun ls2 hls => k H locs ls2 (lv_sub hls ks hl2) hR hS)
theorem g_lstore (X : Ok Γ sp cc own nL ret lev v zf Kf hf)  {i : Nat} {x : Int64} {lv2 : List (Nat × Value)} (d : decode cc pc = .ok (.lstore i, 2))  (hn : i + 1 < nL) (ks : List Nat) (hl2 : lv_pick ((i, Value.long x) :: lv.filter (fun q => !(q.1 == i) && (!(q.1 == i + 1) && !(q.1 + 1 == i && q.2.category == 2)))) ks = lv2) (k : Go Γ cs (pc + 2) lv2 st sz K h) : Go Γ cs pc lv (.long x :: st) sz K h := by
  obtain ⟨⟨p, l, e, R, s, m, args, below, meth, c⟩, D, cA, A, sp0, nL0, mc, ms, v0, zf0, Kf0, hf0⟩ := Γ
  obtain ⟨hx, hb, -, hn0, -⟩ := X
  subst hn0
  intro H locs ls hl hR hS
  exact lv_lstore hx hb d hl hn rfl (fun ls2 hls => k H locs ls2 (lv_sub hls ks hl2) hR hS)
theorem g_qstore_n (X : Ok Γ sp cc own nL ret lev v zf Kf hf) {n : Fin 4} {i : Nat} {x : Option Nat} {lv2 : List (Nat × Value)} (d : decode cc pc = .ok (.astore_n n, 1)) (hi : (n : Nat) = i) (hn : i < nL) (ks : List Nat) (hl2 : lv_pick ((i, va_rf x) :: lv.filter (fun q => !(q.1 == i) && !(q.1 + 1 == i && q.2.category == 2))) ks = lv2) (k : Go Γ cs (pc + 1) lv2 st sz K h) : Go Γ cs pc lv (va_rf x :: st) sz K h := by
  obtain ⟨⟨p, l, e, R, s, m, args, below, meth, c⟩, D, cA, A, sp0, nL0, mc, ms, v0, zf0, Kf0, hf0⟩ := Γ
  obtain ⟨hx, hb, -, hn0, -⟩ := X
  subst hn0
  intro H locs ls hl hR hS
  cases x with
  | none => exact lv_astore_nN hx hb d hi hl hn rfl (fun ls2 hls => k H locs ls2 (lv_sub hls ks hl2) hR hS)
  | some x => exact lv_astore_n hx hb d hi hl hn rfl (fun ls2 hls => k H locs ls2 (lv_sub hls ks hl2) hR hS)
theorem g_qstore (X : Ok Γ sp cc own nL ret lev v zf Kf hf)  {i : Nat} {x : Option Nat} {lv2 : List (Nat × Value)} (d : decode cc pc = .ok (.astore i, 2))  (hn : i < nL) (ks : List Nat) (hl2 : lv_pick ((i, va_rf x) :: lv.filter (fun q => !(q.1 == i) && !(q.1 + 1 == i && q.2.category == 2))) ks = lv2) (k : Go Γ cs (pc + 2) lv2 st sz K h) : Go Γ cs pc lv (va_rf x :: st) sz K h := by
  obtain ⟨⟨p, l, e, R, s, m, args, below, meth, c⟩, D, cA, A, sp0, nL0, mc, ms, v0, zf0, Kf0, hf0⟩ := Γ
  obtain ⟨hx, hb, -, hn0, -⟩ := X
  subst hn0
  intro H locs ls hl hR hS
  cases x with
  | none => exact lv_astoreN hx hb d hl hn rfl (fun ls2 hls => k H locs ls2 (lv_sub hls ks hl2) hR hS)
  | some x => exact lv_astore hx hb d hl hn rfl (fun ls2 hls => k H locs ls2 (lv_sub hls ks hl2) hR hS)
theorem g_iinc (X : Ok Γ sp cc own nL ret lev v zf Kf hf) {i : Nat} {n : Int} {x y : Int32} {lv2 : List (Nat × Value)} (d : decode cc pc = .ok (.iinc i n, 3)) (j : Nat) (hj : lv[j]? = some (i, .int x)) (hv : x + Int32.ofInt n = y) (hn : i < nL) (ks : List Nat) (hl2 : lv_pick ((i, Value.int y) :: lv.filter (fun q => !(q.1 == i) && !(q.1 + 1 == i && q.2.category == 2))) ks = lv2) (k : Go Γ cs (pc + 3) lv2 st sz K h) : Go Γ cs pc lv st sz K h := by
  obtain ⟨⟨p, l, e, R, s, m, args, below, meth, c⟩, D, cA, A, sp0, nL0, mc, ms, v0, zf0, Kf0, hf0⟩ := Γ
  obtain ⟨hx, hb, -, hn0, -⟩ := X
  subst hn0
  intro H locs ls hl hR hS
  exact lv_iinc hx hb d hl hj hv hn rfl (fun ls2 hls => k H locs ls2 (lv_sub hls ks hl2) hR hS)
theorem g_iadd (X : Ok Γ sp cc own nL ret lev v zf Kf hf) {x y : Int32} (d : decode cc pc = .ok (.iadd, 1))  (k : Go Γ cs (pc + 1) lv (.int (x + y) :: st) sz K h) : Go Γ cs pc lv (.int y :: .int x :: st) sz K h := by
  obtain ⟨⟨p, l, e, R, s, m, args, below, meth, c⟩, D, cA, A, sp0, nL0, mc, ms, v0, zf0, Kf0, hf0⟩ := Γ
  obtain ⟨hx, hb, -⟩ := X
  intro H locs ls hl hR hS
  exact lv_iadd hx hb d  (k H locs ls hl hR hS)
theorem g_isub (X : Ok Γ sp cc own nL ret lev v zf Kf hf) {x y : Int32} (d : decode cc pc = .ok (.isub, 1))  (k : Go Γ cs (pc + 1) lv (.int (x - y) :: st) sz K h) : Go Γ cs pc lv (.int y :: .int x :: st) sz K h := by
  obtain ⟨⟨p, l, e, R, s, m, args, below, meth, c⟩, D, cA, A, sp0, nL0, mc, ms, v0, zf0, Kf0, hf0⟩ := Γ
  obtain ⟨hx, hb, -⟩ := X
  intro H locs ls hl hR hS
  exact lv_isub hx hb d  (k H locs ls hl hR hS)
theorem g_imul (X : Ok Γ sp cc own nL ret lev v zf Kf hf) {x y : Int32} (d : decode cc pc = .ok (.imul, 1))  (k : Go Γ cs (pc + 1) lv (.int (x * y) :: st) sz K h) : Go Γ cs pc lv (.int y :: .int x :: st) sz K h := by
  obtain ⟨⟨p, l, e, R, s, m, args, below, meth, c⟩, D, cA, A, sp0, nL0, mc, ms, v0, zf0, Kf0, hf0⟩ := Γ
  obtain ⟨hx, hb, -⟩ := X
  intro H locs ls hl hR hS
  exact lv_imul hx hb d  (k H locs ls hl hR hS)
theorem g_iand (X : Ok Γ sp cc own nL ret lev v zf Kf hf) {x y : Int32} (d : decode cc pc = .ok (.iand, 1))  (k : Go Γ cs (pc + 1) lv (.int (x &&& y) :: st) sz K h) : Go Γ cs pc lv (.int y :: .int x :: st) sz K h := by
  obtain ⟨⟨p, l, e, R, s, m, args, below, meth, c⟩, D, cA, A, sp0, nL0, mc, ms, v0, zf0, Kf0, hf0⟩ := Γ
  obtain ⟨hx, hb, -⟩ := X
  intro H locs ls hl hR hS
  exact lv_iand hx hb d  (k H locs ls hl hR hS)
theorem g_ior (X : Ok Γ sp cc own nL ret lev v zf Kf hf) {x y : Int32} (d : decode cc pc = .ok (.ior, 1))  (k : Go Γ cs (pc + 1) lv (.int (x ||| y) :: st) sz K h) : Go Γ cs pc lv (.int y :: .int x :: st) sz K h := by
  obtain ⟨⟨p, l, e, R, s, m, args, below, meth, c⟩, D, cA, A, sp0, nL0, mc, ms, v0, zf0, Kf0, hf0⟩ := Γ
  obtain ⟨hx, hb, -⟩ := X
  intro H locs ls hl hR hS
  exact lv_ior hx hb d  (k H locs ls hl hR hS)
theorem g_ixor (X : Ok Γ sp cc own nL ret lev v zf Kf hf) {x y : Int32} (d : decode cc pc = .ok (.ixor, 1))  (k : Go Γ cs (pc + 1) lv (.int (x ^^^ y) :: st) sz K h) : Go Γ cs pc lv (.int y :: .int x :: st) sz K h := by
  obtain ⟨⟨p, l, e, R, s, m, args, below, meth, c⟩, D, cA, A, sp0, nL0, mc, ms, v0, zf0, Kf0, hf0⟩ := Γ
  obtain ⟨hx, hb, -⟩ := X
  intro H locs ls hl hR hS
  exact lv_ixor hx hb d  (k H locs ls hl hR hS)
theorem g_ishl (X : Ok Γ sp cc own nL ret lev v zf Kf hf) {x y : Int32} (d : decode cc pc = .ok (.ishl, 1))  (k : Go Γ cs (pc + 1) lv (.int (x <<< (y &&& 31)) :: st) sz K h) : Go Γ cs pc lv (.int y :: .int x :: st) sz K h := by
  obtain ⟨⟨p, l, e, R, s, m, args, below, meth, c⟩, D, cA, A, sp0, nL0, mc, ms, v0, zf0, Kf0, hf0⟩ := Γ
  obtain ⟨hx, hb, -⟩ := X
  intro H locs ls hl hR hS
  exact lv_ishl hx hb d  (k H locs ls hl hR hS)
theorem g_ishr (X : Ok Γ sp cc own nL ret lev v zf Kf hf) {x y : Int32} (d : decode cc pc = .ok (.ishr, 1))  (k : Go Γ cs (pc + 1) lv (.int (x >>> (y &&& 31)) :: st) sz K h) : Go Γ cs pc lv (.int y :: .int x :: st) sz K h := by
  obtain ⟨⟨p, l, e, R, s, m, args, below, meth, c⟩, D, cA, A, sp0, nL0, mc, ms, v0, zf0, Kf0, hf0⟩ := Γ
  obtain ⟨hx, hb, -⟩ := X
  intro H locs ls hl hR hS
  exact lv_ishr hx hb d  (k H locs ls hl hR hS)
theorem g_iushr (X : Ok Γ sp cc own nL ret lev v zf Kf hf) {x y : Int32} (d : decode cc pc = .ok (.iushr, 1))  (k : Go Γ cs (pc + 1) lv (.int ((x.toUInt32 >>> (y.toUInt32 &&& Int32.toUInt32 31)).toInt32) :: st) sz K h) : Go Γ cs pc lv (.int y :: .int x :: st) sz K h := by
  obtain ⟨⟨p, l, e, R, s, m, args, below, meth, c⟩, D, cA, A, sp0, nL0, mc, ms, v0, zf0, Kf0, hf0⟩ := Γ
  obtain ⟨hx, hb, -⟩ := X
  intro H locs ls hl hR hS
  exact lv_iushr hx hb d rfl (k H locs ls hl hR hS)
theorem g_idiv (X : Ok Γ sp cc own nL ret lev v zf Kf hf) {x y : Int32} (d : decode cc pc = .ok (.idiv, 1)) (hne : ¬ y = 0) (k : Go Γ cs (pc + 1) lv (.int (x / y) :: st) sz K h) : Go Γ cs pc lv (.int y :: .int x :: st) sz K h := by
  obtain ⟨⟨p, l, e, R, s, m, args, below, meth, c⟩, D, cA, A, sp0, nL0, mc, ms, v0, zf0, Kf0, hf0⟩ := Γ
  obtain ⟨hx, hb, -⟩ := X
  intro H locs ls hl hR hS
  exact lv_idiv hx hb d hne (k H locs ls hl hR hS)
theorem g_irem (X : Ok Γ sp cc own nL ret lev v zf Kf hf) {x y : Int32} (d : decode cc pc = .ok (.irem, 1)) (hne : ¬ y = 0) (k : Go Γ cs (pc + 1) lv (.int (x - x / y * y) :: st) sz K h) : Go Γ cs pc lv (.int y :: .int x :: st) sz K h := by
  obtain ⟨⟨p, l, e, R, s, m, args, below, meth, c⟩, D, cA, A, sp0, nL0, mc, ms, v0, zf0, Kf0, hf0⟩ := Γ
  obtain ⟨hx, hb, -⟩ := X
  intro H locs ls hl hR hS
  exact lv_irem hx hb d hne (k H locs ls hl hR hS)
theorem g_ladd (X : Ok Γ sp cc own nL ret lev v zf Kf hf) {x y : Int64} (d : decode cc pc = .ok (.ladd, 1))  (k : Go Γ cs (pc + 1) lv (.long (x + y) :: st) sz K h) : Go Γ cs pc lv (.long y :: .long x :: st) sz K h := by
  obtain ⟨⟨p, l, e, R, s, m, args, below, meth, c⟩, D, cA, A, sp0, nL0, mc, ms, v0, zf0, Kf0, hf0⟩ := Γ
  obtain ⟨hx, hb, -⟩ := X
  intro H locs ls hl hR hS
  exact lv_ladd hx hb d  (k H locs ls hl hR hS)
theorem g_lsub (X : Ok Γ sp cc own nL ret lev v zf Kf hf) {x y : Int64} (d : decode cc pc = .ok (.lsub, 1))  (k : Go Γ cs (pc + 1) lv (.long (x - y) :: st) sz K h) : Go Γ cs pc lv (.long y :: .long x :: st) sz K h := by
  obtain ⟨⟨p, l, e, R, s, m, args, below, meth, c⟩, D, cA, A, sp0, nL0, mc, ms, v0, zf0, Kf0, hf0⟩ := Γ
  obtain ⟨hx, hb, -⟩ := X
  intro H locs ls hl hR hS
  exact lv_lsub hx hb d  (k H locs ls hl hR hS)
theorem g_land (X : Ok Γ sp cc own nL ret lev v zf Kf hf) {x y : Int64} (d : decode cc pc = .ok (.land, 1))  (k : Go Γ cs (pc + 1) lv (.long (x &&& y) :: st) sz K h) : Go Γ cs pc lv (.long y :: .long x :: st) sz K h := by
  obtain ⟨⟨p, l, e, R, s, m, args, below, meth, c⟩, D, cA, A, sp0, nL0, mc, ms, v0, zf0, Kf0, hf0⟩ := Γ
  obtain ⟨hx, hb, -⟩ := X
  intro H locs ls hl hR hS
  exact lv_land hx hb d  (k H locs ls hl hR hS)
theorem g_lor (X : Ok Γ sp cc own nL ret lev v zf Kf hf) {x y : Int64} (d : decode cc pc = .ok (.lor, 1))  (k : Go Γ cs (pc + 1) lv (.long (x ||| y) :: st) sz K h) : Go Γ cs pc lv (.long y :: .long x :: st) sz K h := by
  obtain ⟨⟨p, l, e, R, s, m, args, below, meth, c⟩, D, cA, A, sp0, nL0, mc, ms, v0, zf0, Kf0, hf0⟩ := Γ
  obtain ⟨hx, hb, -⟩ := X
  intro H locs ls hl hR hS
  exact lv_lor hx hb d  (k H locs ls hl hR hS)
theorem g_lshl (X : Ok Γ sp cc own nL ret lev v zf Kf hf) {x : Int64} {y : Int32} (d : decode cc pc = .ok (.lshl, 1))  (k : Go Γ cs (pc + 1) lv (.long (x <<< (y.toInt64 &&& 63)) :: st) sz K h) : Go Γ cs pc lv (.int y :: .long x :: st) sz K h := by
  obtain ⟨⟨p, l, e, R, s, m, args, below, meth, c⟩, D, cA, A, sp0, nL0, mc, ms, v0, zf0, Kf0, hf0⟩ := Γ
  obtain ⟨hx, hb, -⟩ := X
  intro H locs ls hl hR hS
  exact lv_lshl hx hb d rfl (k H locs ls hl hR hS)
theorem g_lshr (X : Ok Γ sp cc own nL ret lev v zf Kf hf) {x : Int64} {y : Int32} (d : decode cc pc = .ok (.lshr, 1))  (k : Go Γ cs (pc + 1) lv (.long (x >>> (y.toInt64 &&& 63)) :: st) sz K h) : Go Γ cs pc lv (.int y :: .long x :: st) sz K h := by
  obtain ⟨⟨p, l, e, R, s, m, args, below, meth, c⟩, D, cA, A, sp0, nL0, mc, ms, v0, zf0, Kf0, hf0⟩ := Γ
  obtain ⟨hx, hb, -⟩ := X
  intro H locs ls hl hR hS
  exact lv_lshr hx hb d rfl (k H locs ls hl hR hS)
theorem g_lushr (X : Ok Γ sp cc own nL ret lev v zf Kf hf) {x : Int64} {y : Int32} (d : decode cc pc = .ok (.lushr, 1))  (k : Go Γ cs (pc + 1) lv (.long ((x.toUInt64 >>> (y.toInt64.toUInt64 &&& Int64.toUInt64 63)).toInt64) :: st) sz K h) : Go Γ cs pc lv (.int y :: .long x :: st) sz K h := by
  obtain ⟨⟨p, l, e, R, s, m, args, below, meth, c⟩, D, cA, A, sp0, nL0, mc, ms, v0, zf0, Kf0, hf0⟩ := Γ
  obtain ⟨hx, hb, -⟩ := X
  intro H locs ls hl hR hS
  exact lv_lushr hx hb d rfl (k H locs ls hl hR hS)
theorem g_lcmp (X : Ok Γ sp cc own nL ret lev v zf Kf hf) {x y : Int64} (d : decode cc pc = .ok (.lcmp, 1))  (k : Go Γ cs (pc + 1) lv (.int (lg_cmp x y) :: st) sz K h) : Go Γ cs pc lv (.long y :: .long x :: st) sz K h := by
  obtain ⟨⟨p, l, e, R, s, m, args, below, meth, c⟩, D, cA, A, sp0, nL0, mc, ms, v0, zf0, Kf0, hf0⟩ := Γ
  obtain ⟨hx, hb, -⟩ := X
  intro H locs ls hl hR hS
  exact W.lcmp hx hb d  (k H locs ls hl hR hS)
theorem g_i2l (X : Ok Γ sp cc own nL ret lev v zf Kf hf) {x : Int32} (d : decode cc pc = .ok (.i2l, 1))  (k : Go Γ cs (pc + 1) lv (.long x.toInt64 :: st) sz K h) : Go Γ cs pc lv (.int x :: st) sz K h := by
  obtain ⟨⟨p, l, e, R, s, m, args, below, meth, c⟩, D, cA, A, sp0, nL0, mc, ms, v0, zf0, Kf0, hf0⟩ := Γ
  obtain ⟨hx, hb, -⟩ := X
  intro H locs ls hl hR hS
  exact lv_i2l hx hb d rfl (k H locs ls hl hR hS)
theorem g_l2i (X : Ok Γ sp cc own nL ret lev v zf Kf hf) {x : Int64} (d : decode cc pc = .ok (.l2i, 1))  (k : Go Γ cs (pc + 1) lv (.int x.toInt32 :: st) sz K h) : Go Γ cs pc lv (.long x :: st) sz K h := by
  obtain ⟨⟨p, l, e, R, s, m, args, below, meth, c⟩, D, cA, A, sp0, nL0, mc, ms, v0, zf0, Kf0, hf0⟩ := Γ
  obtain ⟨hx, hb, -⟩ := X
  intro H locs ls hl hR hS
  exact lv_l2i hx hb d rfl (k H locs ls hl hR hS)
theorem g_i2b (X : Ok Γ sp cc own nL ret lev v zf Kf hf) {x : Int32} (d : decode cc pc = .ok (.i2b, 1))  (k : Go Γ cs (pc + 1) lv (.int x.toInt8.toInt32 :: st) sz K h) : Go Γ cs pc lv (.int x :: st) sz K h := by
  obtain ⟨⟨p, l, e, R, s, m, args, below, meth, c⟩, D, cA, A, sp0, nL0, mc, ms, v0, zf0, Kf0, hf0⟩ := Γ
  obtain ⟨hx, hb, -⟩ := X
  intro H locs ls hl hR hS
  exact lv_i2b hx hb d rfl (k H locs ls hl hR hS)
theorem g_dup (X : Ok Γ sp cc own nL ret lev v zf Kf hf) {a : Value} (d : decode cc pc = .ok (.dup, 1)) (ha : a.category = 1) (k : Go Γ cs (pc + 1) lv (a :: a :: st) sz K h) : Go Γ cs pc lv (a :: st) sz K h := by
  obtain ⟨⟨p, l, e, R, s, m, args, below, meth, c⟩, D, cA, A, sp0, nL0, mc, ms, v0, zf0, Kf0, hf0⟩ := Γ
  obtain ⟨hx, hb, -⟩ := X
  intro H locs ls hl hR hS
  exact lv_dup hx hb d ha (k H locs ls hl hR hS)
theorem g_pop (X : Ok Γ sp cc own nL ret lev v zf Kf hf) {a : Value} (d : decode cc pc = .ok (.pop, 1)) (ha : a.category = 1) (k : Go Γ cs (pc + 1) lv st sz K h) : Go Γ cs pc lv (a :: st) sz K h := by
  obtain ⟨⟨p, l, e, R, s, m, args, below, meth, c⟩, D, cA, A, sp0, nL0, mc, ms, v0, zf0, Kf0, hf0⟩ := Γ
  obtain ⟨hx, hb, -⟩ := X
  intro H locs ls hl hR hS
  exact lv_pop hx hb d ha (k H locs ls hl hR hS)
theorem g_dup2 (X : Ok Γ sp cc own nL ret lev v zf Kf hf) {a b : Value} (d : decode cc pc = .ok (.dup2, 1)) (ha : a.category = 1) (hb2 : b.category = 1) (k : Go Γ cs (pc + 1) lv (a :: b :: a :: b :: st) sz K h) : Go Γ cs pc lv (a :: b :: st) sz K h := by
  obtain ⟨⟨p, l, e, R, s, m, args, below, meth, c⟩, D, cA, A, sp0, nL0, mc, ms, v0, zf0, Kf0, hf0⟩ := Γ
  obtain ⟨hx, hb, -⟩ := X
  intro H locs ls hl hR hS
  exact lv_dup2_11 hx hb d ha hb2 (k H locs ls hl hR hS)
theorem g_if_eq_t (X : Ok Γ sp cc own nL ret lev v zf Kf hf) {x : Int32} {off : Int} {tgt : Nat} (d : decode cc pc = .ok (.ifCond .eq off, 3)) (ht : (pc : Int) + off = (tgt : Int)) (hc : x = 0) (k : Go Γ cs tgt lv st sz K h) : Go Γ cs pc lv (.int x :: st) sz K h := by
  obtain ⟨⟨p, l, e, R, s, m, args, below, meth, c⟩, D, cA, A, sp0, nL0, mc, ms, v0, zf0, Kf0, hf0⟩ := Γ
  obtain ⟨hx, hb, -⟩ := X
  intro H locs ls hl hR hS
  exact lv_if_eq hx hb d ht (fun _ => k H locs ls hl hR hS) (fun z => absurd hc z)
theorem g_if_eq_f (X : Ok Γ sp cc own nL ret lev v zf Kf hf) {x : Int32} {off : Int} {tgt : Nat} (d : decode cc pc = .ok (.ifCond .eq off, 3)) (ht : (pc : Int) + off = (tgt : Int)) (hc : ¬ (x = 0)) (k : Go Γ cs (pc + 3) lv st sz K h) : Go Γ cs pc lv (.int x :: st) sz K h := by
  obtain ⟨⟨p, l, e, R, s, m, args, below, meth, c⟩, D, cA, A, sp0, nL0, mc, ms, v0, zf0, Kf0, hf0⟩ := Γ
  obtain ⟨hx, hb, -⟩ := X
  intro H locs ls hl hR hS
  exact lv_if_eq hx hb d ht (fun z => absurd z hc) (fun _ => k H locs ls hl hR hS)
theorem g_icmp_eq_t (X : Ok Γ sp cc own nL ret lev v zf Kf hf) {x y : Int32} {off : Int} {tgt : Nat} (d : decode cc pc = .ok (.if_icmp .eq off, 3)) (ht : (pc : Int) + off = (tgt : Int)) (hc : x = y) (k : Go Γ cs tgt lv st sz K h) : Go Γ cs pc lv (.int y :: .int x :: st) sz K h := by
  obtain ⟨⟨p, l, e, R, s, m, args, below, meth, c⟩, D, cA, A, sp0, nL0, mc, ms, v0, zf0, Kf0, hf0⟩ := Γ
  obtain ⟨hx, hb, -⟩ := X
  intro H locs ls hl hR hS
  exact lv_icmp_eq hx hb d ht (fun _ => k H locs ls hl hR hS) (fun z => absurd hc z)
theorem g_icmp_eq_f (X : Ok Γ sp cc own nL ret lev v zf Kf hf) {x y : Int32} {off : Int} {tgt : Nat} (d : decode cc pc = .ok (.if_icmp .eq off, 3)) (ht : (pc : Int) + off = (tgt : Int)) (hc : ¬ (x = y)) (k : Go Γ cs (pc + 3) lv st sz K h) : Go Γ cs pc lv (.int y :: .int x :: st) sz K h := by
  obtain ⟨⟨p, l, e, R, s, m, args, below, meth, c⟩, D, cA, A, sp0, nL0, mc, ms, v0, zf0, Kf0, hf0⟩ := Γ
  obtain ⟨hx, hb, -⟩ := X
  intro H locs ls hl hR hS
  exact lv_icmp_eq hx hb d ht (fun z => absurd z hc) (fun _ => k H locs ls hl hR hS)
theorem g_if_ne_t (X : Ok Γ sp cc own nL ret lev v zf Kf hf) {x : Int32} {off : Int} {tgt : Nat} (d : decode cc pc = .ok (.ifCond .ne off, 3)) (ht : (pc : Int) + off = (tgt : Int)) (hc : ¬ x = 0) (k : Go Γ cs tgt lv st sz K h) : Go Γ cs pc lv (.int x :: st) sz K h := by
  obtain ⟨⟨p, l, e, R, s, m, args, below, meth, c⟩, D, cA, A, sp0, nL0, mc, ms, v0, zf0, Kf0, hf0⟩ := Γ
  obtain ⟨hx, hb, -⟩ := X
  intro H locs ls hl hR hS
  exact lv_if_ne hx hb d ht (fun _ => k H locs ls hl hR hS) (fun z => absurd z hc)
theorem g_if_ne_f (X : Ok Γ sp cc own nL ret lev v zf Kf hf) {x : Int32} {off : Int} {tgt : Nat} (d : decode cc pc = .ok (.ifCond .ne off, 3)) (ht : (pc : Int) + off = (tgt : Int)) (hc : ¬ (¬ x = 0)) (k : Go Γ cs (pc + 3) lv st sz K h) : Go Γ cs pc lv (.int x :: st) sz K h := by
  obtain ⟨⟨p, l, e, R, s, m, args, below, meth, c⟩, D, cA, A, sp0, nL0, mc, ms, v0, zf0, Kf0, hf0⟩ := Γ
  obtain ⟨hx, hb, -⟩ := X
  intro H locs ls hl hR hS
  exact lv_if_ne hx hb d ht (fun z => absurd z hc) (fun _ => k H locs ls hl hR hS)
theorem g_icmp_ne_t (X : Ok Γ sp cc own nL ret lev v zf Kf hf) {x y : Int32} {off : Int} {tgt : Nat} (d : decode cc pc = .ok (.if_icmp .ne off, 3)) (ht : (pc : Int) + off = (tgt : Int)) (hc : ¬ x = y) (k : Go Γ cs tgt lv st sz K h) : Go Γ cs pc lv (.int y :: .int x :: st) sz K h := by
  obtain ⟨⟨p, l, e, R, s, m, args, below, meth, c⟩, D, cA, A, sp0, nL0, mc, ms, v0, zf0, Kf0, hf0⟩ := Γ
  obtain ⟨hx, hb, -⟩ := X
  intro H locs ls hl hR hS
  exact lv_icmp_ne hx hb d ht (fun _ => k H locs ls hl hR hS) (fun z => absurd z hc)
theorem g_icmp_ne_f (X : Ok Γ sp cc own nL ret lev v zf Kf hf) {x y : Int32} {off : Int} {tgt : Nat} (d : decode cc pc = .ok (.if_icmp .ne off, 3)) (ht : (pc : Int) + off = (tgt : Int)) (hc : ¬ (¬ x = y)) (k : Go Γ cs (pc + 3) lv st sz K h) : Go Γ cs pc lv (.int y :: .int x :: st) sz K h := by
  obtain ⟨⟨p, l, e, R, s, m, args, below, meth, c⟩, D, cA, A, sp0, nL0, mc, ms, v0, zf0, Kf0, hf0⟩ := Γ
  obtain ⟨hx, hb, -⟩ := X
  intro H locs ls hl hR hS
  exact lv_icmp_ne hx hb d ht (fun z => absurd z hc) (fun _ => k H locs ls hl hR hS)
theorem g_if_lt_t (X : Ok Γ sp cc own nL ret lev v zf Kf hf) {x : Int32} {off : Int} {tgt : Nat} (d : decode cc pc = .ok (.ifCond .lt off, 3)) (ht : (pc : Int) + off = (tgt : Int)) (hc : x < 0) (k : Go Γ cs tgt lv st sz K h) : Go Γ cs pc lv (.int x :: st) sz K h := by
  obtain ⟨⟨p, l, e, R, s, m, args, below, meth, c⟩, D, cA, A, sp0, nL0, mc, ms, v0, zf0, Kf0, hf0⟩ := Γ
  obtain ⟨hx, hb, -⟩ := X
  intro H locs ls hl hR hS
  exact lv_if_lt hx hb d ht (fun _ => k H locs ls hl hR hS) (fun z => absurd hc z)
theorem g_if_lt_f (X : Ok Γ sp cc own nL ret lev v zf Kf hf) {x : Int32} {off : Int} {tgt : Nat} (d : decode cc pc = .ok (.ifCond .lt off, 3)) (ht : (pc : Int) + off = (tgt : Int)) (hc : ¬ (x < 0)) (k : Go Γ cs (pc + 3) lv st sz K h) : Go Γ cs pc lv (.int x :: st) sz K h := by
  obtain ⟨⟨p, l, e, R, s, m, args, below, meth, c⟩, D, cA, A, sp0, nL0, mc, ms, v0, zf0, Kf0, hf0⟩ := Γ
  obtain ⟨hx, hb, -⟩ := X
  intro H locs ls hl hR hS
  exact lv_if_lt hx hb d ht (fun z => absurd z hc) (fun _ => k H locs ls hl hR hS)
theorem g_icmp_lt_t (X : Ok Γ sp cc own nL ret lev v zf Kf hf) {x y : Int32} {off : Int} {tgt : Nat} (d : decode cc pc = .ok (.if_icmp .lt off, 3)) (ht : (pc : Int) + off = (tgt : Int)) (hc : x < y) (k : Go Γ cs tgt lv st sz K h) : Go Γ cs pc lv (.int y :: .int x :: st) sz K h := by
  obtain ⟨⟨p, l, e, R, s, m, args, below, meth, c⟩, D, cA, A, sp0, nL0, mc, ms, v0, zf0, Kf0, hf0⟩ := Γ
  obtain ⟨hx, hb, -⟩ := X
  intro H locs ls hl hR hS
  exact lv_icmp_lt hx hb d ht (fun _ => k H locs ls hl hR hS) (fun z => absurd hc z)
theorem g_icmp_lt_f (X : Ok Γ sp cc own nL ret lev v zf Kf hf) {x y : Int32} {off : Int} {tgt : Nat} (d : decode cc pc = .ok (.if_icmp .lt off, 3)) (ht : (pc : Int) + off = (tgt : Int)) (hc : ¬ (x < y)) (k : Go Γ cs (pc + 3) lv st sz K h) : Go Γ cs pc lv (.int y :: .int x :: st) sz K h := by
  obtain ⟨⟨p, l, e, R, s, m, args, below, meth, c⟩, D, cA, A, sp0, nL0, mc, ms, v0, zf0, Kf0, hf0⟩ := Γ
  obtain ⟨hx, hb, -⟩ := X
  intro H locs ls hl hR hS
  exact lv_icmp_lt hx hb d ht (fun z => absurd z hc) (fun _ => k H locs ls hl hR hS)
theorem g_if_ge_t (X : Ok Γ sp cc own nL ret lev v zf Kf hf) {x : Int32} {off : Int} {tgt : Nat} (d : decode cc pc = .ok (.ifCond .ge off, 3)) (ht : (pc : Int) + off = (tgt : Int)) (hc : 0 ≤ x) (k : Go Γ cs tgt lv st sz K h) : Go Γ cs pc lv (.int x :: st) sz K h := by
  obtain ⟨⟨p, l, e, R, s, m, args, below, meth, c⟩, D, cA, A, sp0, nL0, mc, ms, v0, zf0, Kf0, hf0⟩ := Γ
  obtain ⟨hx, hb, -⟩ := X
  intro H locs ls hl hR hS
  exact lv_if_ge hx hb d ht (fun _ => k H locs ls hl hR hS) (fun z => absurd hc z)
theorem g_if_ge_f (X : Ok Γ sp cc own nL ret lev v zf Kf hf) {x : Int32} {off : Int} {tgt : Nat} (d : decode cc pc = .ok (.ifCond .ge off, 3)) (ht : (pc : Int) + off = (tgt : Int)) (hc : ¬ (0 ≤ x)) (k : Go Γ cs (pc + 3) lv st sz K h) : Go Γ cs pc lv (.int x :: st) sz K h := by
  obtain ⟨⟨p, l, e, R, s, m, args, below, meth, c⟩, D, cA, A, sp0, nL0, mc, ms, v0, zf0, Kf0, hf0⟩ := Γ
  obtain ⟨hx, hb, -⟩ := X
  intro H locs ls hl hR hS
  exact lv_if_ge hx hb d ht (fun z => absurd z hc) (fun _ => k H locs ls hl hR hS)
theorem g_icmp_ge_t (X : Ok Γ sp cc own nL ret lev v zf Kf hf) {x y : Int32} {off : Int} {tgt : Nat} (d : decode cc pc = .ok (.if_icmp .ge off, 3)) (ht : (pc : Int) + off = (tgt : Int)) (hc : y ≤ x) (k : Go Γ cs tgt lv st sz K h) : Go Γ cs pc lv (.int y :: .int x :: st) sz K h := by
  obtain ⟨⟨p, l, e, R, s, m, args, below, meth, c⟩, D, cA, A, sp0, nL0, mc, ms, v0, zf0, Kf0, hf0⟩ := Γ
  obtain ⟨hx, hb, -⟩ := X
  intro H locs ls hl hR hS
  exact lv_icmp_ge hx hb d ht (fun _ => k H locs ls hl hR hS) (fun z => absurd hc z)
theorem g_icmp_ge_f (X : Ok Γ sp cc own nL ret lev v zf Kf hf) {x y : Int32} {off : Int} {tgt : Nat} (d : decode cc pc = .ok (.if_icmp .ge off, 3)) (ht : (pc : Int) + off = (tgt : Int)) (hc : ¬ (y ≤ x)) (k : Go Γ cs (pc + 3) lv st sz K h) : Go Γ cs pc lv (.int y :: .int x :: st) sz K h := by
  obtain ⟨⟨p, l, e, R, s, m, args, below, meth, c⟩, D, cA, A, sp0, nL0, mc, ms, v0, zf0, Kf0, hf0⟩ := Γ
  obtain ⟨hx, hb, -⟩ := X
  intro H locs ls hl hR hS
  exact lv_icmp_ge hx hb d ht (fun z => absurd z hc) (fun _ => k H locs ls hl hR hS)
theorem g_if_gt_t (X : Ok Γ sp cc own nL ret lev v zf Kf hf) {x : Int32} {off : Int} {tgt : Nat} (d : decode cc pc = .ok (.ifCond .gt off, 3)) (ht : (pc : Int) + off = (tgt : Int)) (hc : 0 < x) (k : Go Γ cs tgt lv st sz K h) : Go Γ cs pc lv (.int x :: st) sz K h := by
  obtain ⟨⟨p, l, e, R, s, m, args, below, meth, c⟩, D, cA, A, sp0, nL0, mc, ms, v0, zf0, Kf0, hf0⟩ := Γ
  obtain ⟨hx, hb, -⟩ := X
  intro H locs ls hl hR hS
  exact lv_if_gt hx hb d ht (fun _ => k H locs ls hl hR hS) (fun z => absurd hc z)
theorem g_if_gt_f (X : Ok Γ sp cc own nL ret lev v zf Kf hf) {x : Int32} {off : Int} {tgt : Nat} (d : decode cc pc = .ok (.ifCond .gt off, 3)) (ht : (pc : Int) + off = (tgt : Int)) (hc : ¬ (0 < x)) (k : Go Γ cs (pc + 3) lv st sz K h) : Go Γ cs pc lv (.int x :: st) sz K h := by
  obtain ⟨⟨p, l, e, R, s, m, args, below, meth, c⟩, D, cA, A, sp0, nL0, mc, ms, v0, zf0, Kf0, hf0⟩ := Γ
  obtain ⟨hx, hb, -⟩ := X
  intro H locs ls hl hR hS
  exact lv_if_gt hx hb d ht (fun z => absurd z hc) (fun _ => k H locs ls hl hR hS)
theorem g_icmp_gt_t (X : Ok Γ sp cc own nL ret lev v zf Kf hf) {x y : Int32} {off : Int} {tgt : Nat} (d : decode cc pc = .ok (.if_icmp .gt off, 3)) (ht : (pc : Int) + off = (tgt : Int)) (hc : y < x) (k : Go Γ cs tgt lv st sz K h) : Go Γ cs pc lv (.int y :: .int x :: st) sz K h := by
  obtain ⟨⟨p, l, e, R, s, m, args, below, meth, c⟩, D, cA, A, sp0, nL0, mc, ms, v0, zf0, Kf0, hf0⟩ := Γ
  obtain ⟨hx, hb, -⟩ := X
  intro H locs ls hl hR hS
  exact lv_icmp_gt hx hb d ht (fun _ => k H locs ls hl hR hS) (fun z => absurd hc z)
theorem g_icmp_gt_f (X : Ok Γ sp cc own nL ret lev v zf Kf hf) {x y : Int32} {off : Int} {tgt : Nat} (d : decode cc pc = .ok (.if_icmp .gt off, 3)) (ht : (pc : Int) + off = (tgt : Int)) (hc : ¬ (y < x)) (k : Go Γ cs (pc + 3) lv st sz K h) : Go Γ cs pc lv (.int y :: .int x :: st) sz K h := by
  obtain ⟨⟨p, l, e, R, s, m, args, below, meth, c⟩, D, cA, A, sp0, nL0, mc, ms, v0, zf0, Kf0, hf0⟩ := Γ
  obtain ⟨hx, hb, -⟩ := X
  intro H locs ls hl hR hS
  exact lv_icmp_gt hx hb d ht (fun z => absurd z hc) (fun _ => k H locs ls hl hR hS)
theorem g_if_le_t (X : Ok Γ sp cc own nL ret lev v zf Kf hf) {x : Int32} {off : Int} {tgt : Nat} (d : decode cc pc = .ok (.ifCond .le off, 3)) (ht : (pc : Int) + off = (tgt : Int)) (hc : x ≤ 0) (k : Go Γ cs tgt lv st sz K h) : Go Γ cs pc lv (.int x :: st) sz K h := by
  obtain ⟨⟨p, l, e, R, s, m, args, below, meth, c⟩, D, cA, A, sp0, nL0, mc, ms, v0, zf0, Kf0, hf0⟩ := Γ
  obtain ⟨hx, hb, -⟩ := X
  intro H locs ls hl hR hS
  exact lv_if_le hx hb d ht (fun _ => k H locs ls hl hR hS) (fun z => absurd hc z)
theorem g_if_le_f (X : Ok Γ sp cc own nL ret lev v zf Kf hf) {x : Int32} {off : Int} {tgt : Nat} (d : decode cc pc = .ok (.ifCond .le off, 3)) (ht : (pc : Int) + off = (tgt : Int)) (hc : ¬ (x ≤ 0)) (k : Go Γ cs (pc + 3) lv st sz K h) : Go Γ cs pc lv (.int x :: st) sz K h := by
  obtain ⟨⟨p, l, e, R, s, m, args, below, meth, c⟩, D, cA, A, sp0, nL0, mc, ms, v0, zf0, Kf0, hf0⟩ := Γ
  obtain ⟨hx, hb, -⟩ := X
  intro H locs ls hl hR hS
  exact lv_if_le hx hb d ht (fun z => absurd z hc) (fun _ => k H locs ls hl hR hS)
theorem g_icmp_le_t (X : Ok Γ sp cc own nL ret lev v zf Kf hf) {x y : Int32} {off : Int} {tgt : Nat} (d : decode cc pc = .ok (.if_icmp .le off, 3)) (ht : (pc : Int) + off = (tgt : Int)) (hc : x ≤ y) (k : Go Γ cs tgt lv st sz K h) : Go Γ cs pc lv (.int y :: .int x :: st) sz K h := by
  obtain ⟨⟨p, l, e, R, s, m, args, below, meth, c⟩, D, cA, A, sp0, nL0, mc, ms, v0, zf0, Kf0, hf0⟩ := Γ
  obtain ⟨hx, hb, -⟩ := X
  intro H locs ls hl hR hS
  exact lv_icmp_le hx hb d ht (fun _ => k H locs ls hl hR hS) (fun z => absurd hc z)
theorem g_icmp_le_f (X : Ok Γ sp cc own nL ret lev v zf Kf hf) {x y : Int32} {off : Int} {tgt : Nat} (d : decode cc pc = .ok (.if_icmp .le off, 3)) (ht : (pc : Int) + off = (tgt : Int)) (hc : ¬ (x ≤ y)) (k : Go Γ cs (pc + 3) lv st sz K h) : Go Γ cs pc lv (.int y :: .int x :: st) sz K h := by
  obtain ⟨⟨p, l, e, R, s, m, args, below, meth, c⟩, D, cA, A, sp0, nL0, mc, ms, v0, zf0, Kf0, hf0⟩ := Γ
  obtain ⟨hx, hb, -⟩ := X
  intro H locs ls hl hR hS
  exact lv_icmp_le hx hb d ht (fun z => absurd z hc) (fun _ => k H locs ls hl hR hS)
theorem g_goto (X : Ok Γ sp cc own nL ret lev v zf Kf hf) {off : Int} {tgt : Nat} (d : decode cc pc = .ok (.goto off, 3)) (ht : (pc : Int) + off = (tgt : Int)) (k : Go Γ cs tgt lv st sz K h) : Go Γ cs pc lv st sz K h := by
  obtain ⟨⟨p, l, e, R, s, m, args, below, meth, c⟩, D, cA, A, sp0, nL0, mc, ms, v0, zf0, Kf0, hf0⟩ := Γ
  obtain ⟨hx, hb, -⟩ := X
  intro H locs ls hl hR hS
  exact lv_goto hx hb d ht (k H locs ls hl hR hS)
theorem g_ifnull_N (X : Ok Γ sp cc own nL ret lev v zf Kf hf) {off : Int} {tgt : Nat} (d : decode cc pc = .ok (.ifnull off, 3)) (ht : (pc : Int) + off = (tgt : Int)) (k : Go Γ cs tgt lv st sz K h) : Go Γ cs pc lv (.null :: st) sz K h := by
  obtain ⟨⟨p, l, e, R, s, m, args, below, meth, c⟩, D, cA, A, sp0, nL0, mc, ms, v0, zf0, Kf0, hf0⟩ := Γ
  obtain ⟨hx, hb, -⟩ := X
  intro H locs ls hl hR hS
  exact lv_ifnullN hx hb d ht (k H locs ls hl hR hS)
theorem g_ifnull_R (X : Ok Γ sp cc own nL ret lev v zf Kf hf) {x : Nat} {off : Int} {tgt : Nat} (d : decode cc pc = .ok (.ifnull off, 3)) (ht : (pc : Int) + off = (tgt : Int)) (k : Go Γ cs (pc + 3) lv st sz K h) : Go Γ cs pc lv (.ref x :: st) sz K h := by
  obtain ⟨⟨p, l, e, R, s, m, args, below, meth, c⟩, D, cA, A, sp0, nL0, mc, ms, v0, zf0, Kf0, hf0⟩ := Γ
  obtain ⟨hx, hb, -⟩ := X
  intro H locs ls hl hR hS
  exact lv_ifnull hx hb d (k H locs ls hl hR hS)
theorem g_ifnonnull_N (X : Ok Γ sp cc own nL ret lev v zf Kf hf) {off : Int} {tgt : Nat} (d : decode cc pc = .ok (.ifnonnull off, 3)) (ht : (pc : Int) + off = (tgt : Int)) (k : Go Γ cs (pc + 3) lv st sz K h) : Go Γ cs pc lv (.null :: st) sz K h := by
  obtain ⟨⟨p, l, e, R, s, m, args, below, meth, c⟩, D, cA, A, sp0, nL0, mc, ms, v0, zf0, Kf0, hf0⟩ := Γ
  obtain ⟨hx, hb, -⟩ := X
  intro H locs ls hl hR hS
  exact lv_ifnonnullN hx hb d (k H locs ls hl hR hS)
theorem g_ifnonnull_R (X : Ok Γ sp cc own nL ret lev v zf Kf hf) {x : Nat} {off : Int} {tgt : Nat} (d : decode cc pc = .ok (.ifnonnull off, 3)) (ht : (pc : Int) + off = (tgt : Int)) (k : Go Γ cs tgt lv st sz K h) : Go Γ cs pc lv (.ref x :: st) sz K h := by
  obtain ⟨⟨p, l, e, R, s, m, args, below, meth, c⟩, D, cA, A, sp0, nL0, mc, ms, v0, zf0, Kf0, hf0⟩ := Γ
  obtain ⟨hx, hb, -⟩ := X
  intro H locs ls hl hR hS
  exact lv_ifnonnull hx hb d ht (k H locs ls hl hR hS)
theorem g_tab_out (X : Ok Γ sp cc own nL ret lev v zf Kf hf) {x : Int32} {dflt lo hi : Int} {offs : Array Int} {len tgt : Nat} (d : decode cc pc = .ok (.tableswitch dflt lo hi offs, len)) (hc : x.toInt < lo ∨ hi < x.toInt) (ht : (pc : Int) + dflt = (tgt : Int)) (k : Go Γ cs tgt lv st sz K h) : Go Γ cs pc lv (.int x :: st) sz K h := by
  obtain ⟨⟨p, l, e, R, s, m, args, below, meth, c⟩, D, cA, A, sp0, nL0, mc, ms, v0, zf0, Kf0, hf0⟩ := Γ
  obtain ⟨hx, hb, -⟩ := X
  intro H locs ls hl hR hS
  exact lv_tableOut hx hb d hc ht (k H locs ls hl hR hS)
theorem g_tab_in (X : Ok Γ sp cc own nL ret lev v zf Kf hf) {x : Int32} {dflt lo hi off : Int} {offs : Array Int} {len tgt : Nat} (d : decode cc pc = .ok (.tableswitch dflt lo hi offs, len)) (h1 : ¬ x.toInt < lo) (h2 : ¬ hi < x.toInt) (ho : offs[(x.toInt - lo).toNat]? = some off) (ht : (pc : Int) + off = (tgt : Int)) (k : Go Γ cs tgt lv st sz K h) : Go Γ cs pc lv (.int x :: st) sz K h := by
  obtain ⟨⟨p, l, e, R, s, m, args, below, meth, c⟩, D, cA, A, sp0, nL0, mc, ms, v0, zf0, Kf0, hf0⟩ := Γ
  obtain ⟨hx, hb, -⟩ := X
  intro H locs ls hl hR hS
  exact lv_tableIn hx hb d h1 h2 ho ht (k H locs ls hl hR hS)
theorem g_lookup (X : Ok Γ sp cc own nL ret lev v zf Kf hf) {x : Int32} {dflt off : Int} {ps : Array (Int × Int)} {len tgt : Nat} (d : decode cc pc = .ok (.lookupswitch dflt ps, len)) (hp : (ps.toList.zip (ps.toList.drop 1)).all (fun (a, next) => a.1 < next.1) = true) (ho : Op.lookupswitch.offset ps.toList dflt x.toInt = off) (ht : (pc : Int) + off = (tgt : Int)) (k : Go Γ cs tgt lv st sz K h) : Go Γ cs pc lv (.int x :: st) sz K h := by
  obtain ⟨⟨p, l, e, R, s, m, args, below, meth, c⟩, D, cA, A, sp0, nL0, mc, ms, v0, zf0, Kf0, hf0⟩ := Γ
  obtain ⟨hx, hb, -⟩ := X
  intro H locs ls hl hR hS
  exact lv_lookup hx hb d hp ho ht (k H locs ls hl hR hS)
theorem g_ireturn {x : Int32} (X : Ok Γ sp cc own nL (some .int) lev (some (.int x)) sz K h) (d : decode cc pc = .ok (.ireturn, 1))  : Go Γ (0, 0) pc lv [.int x] sz K h := by
  obtain ⟨⟨p, l, e, R, s, m, args, below, meth, c⟩, D, cA, A, sp0, nL0, mc, ms, v0, zf0, Kf0, hf0⟩ := Γ
  obtain ⟨hx, hb, -, -, hr, -, -, hlocks, -, -, rfl, rfl, rfl, rfl, -⟩ := X
  intro H locs ls hl hR hS
  exact W.widen (Nat.zero_le _) (Nat.zero_le _) (W.iret hx hb hr (fun t ht hW => ⟨rfl, by rw [ht]; exact hR, hS.F ht⟩) hS.2.2 d hlocks)
theorem g_zreturn {x : Int32} {ty : FieldType} (X : Ok Γ sp cc own nL (some ty) lev (some (.int x)) sz K h) (d : decode cc pc = .ok (.ireturn, 1)) (hn : narrow ty (.int x) = .int x) : Go Γ (0, 0) pc lv [.int x] sz K h := by
  obtain ⟨⟨p, l, e, R, s, m, args, below, meth, c⟩, D, cA, A, sp0, nL0, mc, ms, v0, zf0, Kf0, hf0⟩ := Γ
  obtain ⟨hx, hb, -, -, hr, -, -, hlocks, -, -, rfl, rfl, rfl, rfl, -⟩ := X
  intro H locs ls hl hR hS
  exact W.widen (Nat.zero_le _) (Nat.zero_le _) (W.zret hx hb hr hn (fun t ht hW => ⟨rfl, by rw [ht]; exact hR, hS.F ht⟩) hS.2.2 d hlocks)
theorem g_return  (X : Ok Γ sp cc own nL (none) lev (none) sz K h) (d : decode cc pc = .ok (.return_, 1))  : Go Γ (0, 0) pc lv [] sz K h := by
  obtain ⟨⟨p, l, e, R, s, m, args, below, meth, c⟩, D, cA, A, sp0, nL0, mc, ms, v0, zf0, Kf0, hf0⟩ := Γ
  obtain ⟨hx, hb, -, -, hr, -, -, hlocks, -, -, rfl, rfl, rfl, rfl, -⟩ := X
  intro H locs ls hl hR hS
  exact W.widen (Nat.zero_le _) (Nat.zero_le _) (W.vret hx hb hr (fun t ht hW => ⟨rfl, by rw [ht]; exact hR, hS.F ht⟩) hS.2.2 d hlocks)
theorem g_areturn {x : Option Nat} {ty : FieldType} (X : Ok Γ sp cc own nL (some ty) lev (some (va_rf x)) sz K h) (d : decode cc pc = .ok (.areturn, 1)) (hrt : (∃ n, ty = .object n) ∨ ∃ t, ty = .array t) : Go Γ (0, 0) pc lv [va_rf x] sz K h := by
  obtain ⟨⟨p, l, e, R, s, m, args, below, meth, c⟩, D, cA, A, sp0, nL0, mc, ms, v0, zf0, Kf0, hf0⟩ := Γ
  obtain ⟨hx, hb, -, -, hr, -, -, hlocks, -, -, rfl, rfl, rfl, rfl, -⟩ := X
  intro H locs ls hl hR hS
  exact W.widen (Nat.zero_le _) (Nat.zero_le _) (W.aret hx hb hr hrt (va_rf_or x) (fun t ht hW => ⟨rfl, by rw [ht]; exact hR, hS.F ht⟩) hS.2.2 d hlocks)
end Rules
