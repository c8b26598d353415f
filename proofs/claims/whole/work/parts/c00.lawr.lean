/-! the law: rules for its walk -/
def Ol (Γ : CT) (M N : Nat) : Prop :=
  match Γ with
  | ⟨⟨_, _, _, _, s, _, _, _, _, _⟩, _, _, A, _, _, mc, ms, _⟩ => (∀ q, s.heap.size ≤ q → A q) ∧ mc = M ∧ ms = N
def Sx (Γ : CT) (b L : Nat) (xs : Nat → Int32) : Prop :=
  match Γ with
  | ⟨⟨_, _, _, _, s, _, _, _, _, _⟩, _, _, A, _⟩ => va_X b L xs s s.heap ∧ b < s.heap.size ∧ ¬ A b
theorem KE.narrow {D : va_G} {cA : Nat → ClassId} {A B : Nat → Prop} {sp : Sp} {U : State} {H : Heap} (h : KE D cA A sp U H) (hAB : ∀ q, B q → A q) : KE D cA B sp U H :=
  ⟨h.1, h.2.1, h.2.2.1.narrow hAB, h.2.2.2.1, h.2.2.2.2.1.narrow hAB, h.2.2.2.2.2.1.narrow hAB, h.2.2.2.2.2.2.1.narrow hAB, h.2.2.2.2.2.2.2.imp fun _ hq => hq.narrow hAB⟩
section RunL
variable {p : Program} {l : Launch} {e : Env} {R : Room} {s : State} {m : MethodId} {args : Array Value} {below : List Frame} {meth : Method} {c : Code} {H : Heap} {locs : List Jvm.Loc} {cells slots : Nat} {Q : State → Prop}
theorem run_go2 {pc : Nat} {ls : Array Slot} {rest st0 : List Value} {a : Array Value} {A A1 : Nat → Prop} {D : va_G} {cA : Nat → ClassId} {mc ms zf : Nat} {Kf : Ly} {hf : Hp} {rv : Option Value} (hr : va_Run p l e R s m args below meth c H locs cells slots mc ms (F0 m pc ls st0) rest (QC D cA A1 rv zf Kf hf a) A1) (hS : va_S A s.heap H locs) (hA : ∀ q, A1 q → A q)
    (kk : ∀ (H1 : Heap) (locs1 : List Jvm.Loc), REL D cA A1 zf Kf hf H1 → (∀ q, q < H.size → ¬ A1 q → H1[q]? = H[q]?) → va_S A s.heap H1 locs1 → W p l e R s m args below meth c H1 locs1 (cells + mc) (slots + ms) Q (F0 m (pc + 3) ls (rv.toList ++ rest))) : W p l e R s m args below meth c H locs cells slots Q (F0 m pc ls st0) := by
  intro T hT X
  obtain ⟨v, st₀, t, T', L, h0, X', hL, e1, e2, ⟨hv, hrel, hz, hk⟩, st⟩ := hr T hT X
  cases hv
  rw [h0] at hz hk
  obtain ⟨t2, a1, b1⟩ := kk T'.heap (locs ++ L) (by rw [e1]; exact hrel) (fun q h1 h2 => by rw [e1]; exact hk q h1 h2)
    ⟨Nat.le_trans hS.1 (by rw [e1]; exact hz), fun q h1 h2 => by rw [e1, hk q (Nat.lt_of_lt_of_le h1 hS.1) (fun hh => h2 (hA q hh))]; exact hS.2.1 q h1 h2, fun q hq => by
      rcases List.mem_append.mp hq with h | h
      · exact hS.2.2 q h
      · exact hA _ (hL q h)⟩ T' rfl X'
  exact ⟨t2, st t2 a1, b1⟩
end RunL
section LawR
variable {Γ : CT} {sp : Sp} {cc : ByteArray} {own : String} {nL : Nat} {ret : Option FieldType} {lev : Nat} {v : Option Value} {zf : Nat} {Kf : Ly} {hf : Hp} {cs : Nat × Nat} {pc : Nat} {lv : List (Nat × Value)} {st : List Value} {sz : Nat} {K : Ly} {h : Hp} {M N : Nat}
theorem g_weak {K' : Ly} {h' : Hp} (w : ∀ b k, K' b = some k → K b = some k ∧ ∀ c j, tV c h' b j = tV c h b j) (kk : Go Γ cs pc lv st sz K' h') : Go Γ cs pc lv st sz K h := by
  obtain ⟨⟨p, l, e, R, s, m, args, below, meth, c⟩, D, cA, A, sp0, nL0, mc, ms, v0, zf0, Kf0, hf0⟩ := Γ
  intro H locs ls hl hR hS
  exact kk H locs ls hl ⟨hR.1, fun b k hb => ⟨(hR.2 b k (w b k hb).1).1, (hR.2 b k (w b k hb).1).2.kept rfl (w b k hb).2⟩⟩ hS
/-- a call of one of the two objects: the other's cells are left alone -/
theorem g_call2 (X : Ok Γ sp cc own nL ret lev v zf Kf hf) (O : Ol Γ M N) {o ci idx n2 lev2 : Nat} {r : vw_C} {y : MethodName} {b : ByteArray} {ret2 : Option FieldType} {rv : Option Value} {Kc : Ly} {hc hc' h' : Hp} (As : List Value) (d : decode cc pc = .ok (.invokevirtual idx, 3)) (L : MLk 0 own idx y b n2 ret2 As.length) (hk : Kc o = some (.inl ci)) (hcl : cls_l[ci]? = some r) (hy : r.1 = y.cls) (hlev : lev2 < lev) (hst : (st.map fun v => v.category).sum ≤ 8) (hcs : cs.1 ≤ M ∧ cs.2 ≤ N)
    (w1 : ∀ b k, Kc b = some k → K b = some k ∧ ∀ c j, tV c hc b j = tV c h b j) (w2 : ∀ b k, K b = some k → (Kc b = some k ∧ ∀ c j, tV c h' b j = tV c hc' b j) ∨ (Kc b = none ∧ ∀ c j, tV c h' b j = tV c h b j)) (hM : Con sp y b n2 ret2 lev2 0 0 (.ref o :: As) sz Kc hc rv sz Kc hc') (kk : Go Γ cs (pc + 3) lv (rv.toList ++ st) sz K h') : Go Γ cs pc lv (As.reverse ++ .ref o :: st) sz K h := by
  obtain ⟨⟨p, l, e, R, s, m, args, below, meth, c⟩, D, cA, A, sp0, nL0, mc, ms, v0, zf0, Kf0, hf0⟩ := Γ
  obtain ⟨hx, hb, hml, rfl, -, hown, hts, -, hE, ⟨hR1, hR2, rfl, rfl⟩, -, -, -, -, rfl⟩ := X
  obtain ⟨-, rfl, rfl⟩ := O
  intro H locs ls hl hR hS
  obtain ⟨hcode, hini, hlink, hd, hn21, hin, hsel⟩ := L
  obtain ⟨A1, hA1⟩ : ∃ A1 : Nat → Prop, A1 = fun q => A q ∧ Kc q ≠ none := ⟨_, rfl⟩
  have hA : ∀ q, A1 q → A q := fun q hq => by rw [hA1] at hq; exact hq.1
  have hRc : REL D cA A1 sz Kc hc H := ⟨hR.1, fun b k hb => ⟨by rw [hA1]; exact ⟨(hR.2 b k (w1 b k hb).1).1, by rw [hb]; exact Option.some_ne_none _⟩, (hR.2 b k (w1 b k hb).1).2.kept rfl (w1 b k hb).2⟩⟩
  obtain ⟨r', h1, cell, q1, q2, q3, q4⟩ := (hRc.2 o _ hk).2
  have hcls := (hE.1.1 ci r hcl).2
  have hpre : PreV s H y.cls o (fun args U => args = (Value.ref o :: As).toArray ∧ KE D cA A1 sp0 U U.heap ∧ REL D cA A1 sz Kc hc U.heap) As := ⟨pre_blind, ⟨cell, q1, by rw [q3]; rfl, by rw [q2, ← hy]; exact hcls.1⟩, fun U hU hW => ⟨rfl, by rw [hU]; exact (hE.warm hW hS.2.1).narrow hA, by rw [hU]; exact hRc⟩⟩
  have hRm : (rmL lev2 0 0).frames + 1 ≤ R.frames ∧ 8 + (n2 + 11) + (rmL lev2 0 0).locals ≤ R.locals := ⟨Nat.le_trans hlev hR1, Nat.le_trans (by show 8 + (n2 + 11) + 40 * lev2 ≤ 40 * lev; omega) hR2⟩
  have hM2 := hM l D cA A1 (fun h => absurd h (Nat.lt_irrefl 0))
  have fin : ∀ (H1 : Heap) (locs1 : List Jvm.Loc), REL D cA A1 sz Kc hc' H1 → (∀ q, q < H.size → ¬ A1 q → H1[q]? = H[q]?) → va_S A s.heap H1 locs1 → W p l e R s m args below meth c H1 locs1 (cs.1 + 0) (cs.2 + 0) (MQ below (QC D cA A v0 zf0 Kf0 hf0) args s R.cells R.slots A) (F0 m (pc + 3) ls (rv.toList ++ st)) := fun H1 locs1 hr1 hk1 hs1 => by
    refine kk H1 locs1 ls hl ⟨hr1.1, fun b k hb => ⟨(hR.2 b k hb).1, ?_⟩⟩ hs1
    rcases w2 b k hb with ⟨e1, e2⟩ | ⟨e1, e2⟩
    · exact (hr1.2 b k e1).2.kept rfl e2
    · exact (hR.2 b k hb).2.kept (hk1 b (hR.2 b k hb).2.lt (fun hh => by rw [hA1] at hh; exact hh.2 e1)) e2
  rcases hlink with hlink | ⟨host, hlink⟩
  · exact run_go2 (va_runV (own := own) (n := As.length) (Ts := lw_g) ⟨hx, hb, hml, hown, hts⟩ hM2 ⟨callB_of As.length hts (good_ws hcode) rfl rfl rfl (hts _ hini) (hts _ hlink) hd hRm, hts _ hin, hts _ hsel⟩ hpre rfl rfl hl.1 rfl (lv_room hst) d ⟨hcs.1, hcs.2⟩) hS hA fin
  · exact run_go2 (va_runVN (own := own) (n := As.length) (Ts := lw_g) ⟨hx, hb, hml, hown, hts⟩ hM2 ⟨va_cnB As.length hts (good_ws hcode) rfl rfl rfl (hE.2.1 _ hlink rfl) (hts _ hini) hd hRm, hts _ hin, hts _ hsel⟩ hpre rfl rfl hl.1 rfl (lv_room hst) d ⟨hcs.1, hcs.2⟩) hS hA fin
theorem l_new (X : Ok Γ sp cc own nL ret lev v zf Kf hf) (O : Ol Γ M N) {idx ci n : Nat} {C : String} {T : u_T} (d : decode cc pc = .ok (.new idx, 3)) (P : CKs ci C T n) (hcl : Cond.classLink own idx C ∈ lw_g) (hinst : Cond.instantiable C n ∈ lw_g) (hini : Cond.initialized C ∈ lw_g) (hdef : ∀ (ty : Nat → FieldType), (∀ k, k < n → parseFieldDescriptor (T k).2.2.1 = some (ty k)) → ∀ k, k < n → defaultValue (ty k) = (match fc ci k with
      | 0 => Value.int 0
      | 1 => .long 0
      | _ => .null)) (hraw : ∀ k, k < n → fc ci k ≤ 2) (hcells : cs.1 + 1 ≤ M) (hslots : cs.2 + n ≤ N) (kk : Go Γ (cs.1 + 1, cs.2 + n) (pc + 3) lv (.ref sz :: st) (sz + 1) (kS K sz (.inl ci)) (zr h sz)) : Go Γ cs pc lv st sz K h := by
  obtain ⟨⟨p, l, e, R, s, m, args, below, meth, c⟩, D, cA, A, sp0, nL0, mc, ms, v0, zf0, Kf0, hf0⟩ := Γ
  obtain ⟨hx, hb, -, -, -, hown, hts, -, hE, ⟨-, -, rfl, rfl⟩, -⟩ := X
  obtain ⟨hA, rfl, rfl⟩ := O
  obtain ⟨hc, hin, hsame, ⟨ty, hty⟩, hnm⟩ := P
  intro H locs ls hl hR hS
  have hKn := hE.1.1 ci _ hc
  refine W.newcK hx hb hown (hts _ hcl) (hts _ hinst) (hts _ hini) rfl d hcells hslots hKn.2.1 hR.1 fun H1 kC hkC e1 z1 o1 => ?_
  refine kk H1 locs ls hl (hR.push z1 o1 (hA _ (by rw [← hR.1]; exact hS.1)) ⟨_, hc, (u_born ty hts hin hKn hkC e1 hty).to (fun j hj => ?_)⟩) ⟨by rw [z1, ← hR.1]; exact Nat.le_succ_of_le hS.1, fun x h1 h2 => (o1 x (by rw [← hR.1]; exact Nat.lt_of_lt_of_le h1 hS.1)).trans (hS.2.1 x h1 h2), hS.2.2⟩
  rw [hdef ty hty j hj]
  have h2 := hraw j hj
  match fc ci j, h2 with
  | 0, _ => simp [tV, zr]
  | 1, _ => simp [tV, zr]
  | 2, _ => simp [tV, zr, va_rf]
theorem l_call (X : Ok Γ sp cc own nL ret lev v zf Kf hf) (O : Ol Γ M N) (Q : AOg Γ) {o idx n2 lev2 mc2 ms2 z2 : Nat} {K2 : Ly} {h2 : Hp} {y : MethodName} {b : ByteArray} (d : decode cc pc = .ok (.invokespecial idx, 3)) (L : MLk 2 own idx y b n2 none 0) (hlev : lev2 < lev) (hst : (st.map fun v => v.category).sum ≤ 8) (hcells : cs.1 + mc2 ≤ M) (hslots : cs.2 + ms2 ≤ N) (hM : ConI sp y b n2 lev2 mc2 ms2 o sz K h z2 K2 h2) (kk : Go Γ (cs.1 + mc2, cs.2 + ms2) (pc + 3) lv st z2 K2 h2) : Go Γ cs pc lv (.ref o :: st) sz K h := by
  obtain ⟨⟨p, l, e, R, s, m, args, below, meth, c⟩, D, cA, A, sp0, nL0, mc, ms, v0, zf0, Kf0, hf0⟩ := Γ
  obtain ⟨hx, hb, hml, rfl, -, hown, hts, -, hE, ⟨hR1, hR2, rfl, rfl⟩, -, -, -, -, rfl⟩ := X
  obtain ⟨hA, rfl, rfl⟩ := O
  intro H locs ls hl hR hS
  obtain ⟨hcode, hini, hlink, hd, hn21, hy1, hin⟩ := L
  have hpre : PreS s H (fun args U => args = ([.ref o] : List Value).toArray ∧ AO U ∧ KE D cA A sp0 U U.heap ∧ REL D cA A sz K h U.heap) [.ref o] := ⟨fun _ U g mk q => ⟨q.1, AO.moved (u := U) (Vm.Alike.refl U.vm) q.2.1, KE.same (u := U) rfl q.2.2.1, q.2.2.2⟩, fun U hU hW => ⟨rfl, AO.moved hW.alike Q, by rw [hU]; exact hE.warm hW hS.2.1, by rw [hU]; exact hR⟩⟩
  have hRm : (rmL lev2 mc2 ms2).frames + 1 ≤ R.frames ∧ 8 + (n2 + 11) + (rmL lev2 mc2 ms2).locals ≤ R.locals := ⟨Nat.le_trans hlev hR1, Nat.le_trans (by show 8 + (n2 + 11) + 40 * lev2 ≤ 40 * lev; omega) hR2⟩
  have hM2 := hM l D cA A (fun q hq => hA q (Nat.le_trans (by rw [← hR.1]; exact hS.1) hq))
  rcases hlink with hlink | ⟨host, hlink⟩
  · exact run_go (va_runI (As := []) (own := own) (n := 0) (Ts := lw_g) ⟨hx, hb, hml, hown, hts⟩ hM2 ⟨callB_of 0 hts (good_ws hcode) rfl rfl rfl (hts _ hini) (hts _ hlink) hd hRm, hy1, hts _ hin⟩ hpre rfl rfl hl.1 rfl (lv_room hst) d ⟨hcells, hslots⟩) hS (fun H1 locs1 hr1 hs1 => kk H1 locs1 ls hl hr1 hs1)
  · exact run_go (va_runIN (As := []) (own := own) (n := 0) (Ts := lw_g) ⟨hx, hb, hml, hown, hts⟩ hM2 ⟨va_cnB 0 hts (good_ws hcode) rfl rfl rfl (hE.2.1 _ hlink rfl) (hts _ hini) hd hRm, hy1, hts _ hin⟩ hpre rfl rfl hl.1 rfl (lv_room hst) d ⟨hcells, hslots⟩) hS (fun H1 locs1 hr1 hs1 => kk H1 locs1 ls hl hr1 hs1)
theorem g_sld (X : Ok Γ sp cc own nL ret lev v zf Kf hf) {b L : Nat} {xs : Nat → Int32} (S : Sx Γ b L xs) {x : Int32} {i : Nat} (hx : x = nI i) (hi : i < L) (hL : L ≤ 3584) (d : decode cc pc = .ok (.iaload, 1)) (kk : Go Γ cs (pc + 1) lv (.int (xs i) :: st) sz K h) : Go Γ cs pc lv (.int x :: .ref b :: st) sz K h := by
  obtain ⟨⟨p, l, e, R, s, m, args, below, meth, c⟩, D, cA, A, sp0, nL0, mc, ms, v0, zf0, Kf0, hf0⟩ := Γ
  obtain ⟨hx0, hb, -⟩ := X
  obtain ⟨s1, s2, s3⟩ := S
  intro H locs ls hl hR hS
  subst hx
  have e : (nI i).toNatClampNeg = i := x_cl (by omega)
  refine va_sld hx0 hb s1 s2 s3 hS (inb_in (x_in hi (by omega))) d ?_
  rw [e]
  exact kk H locs ls hl hR hS
theorem g_slen (X : Ok Γ sp cc own nL ret lev v zf Kf hf) {b L : Nat} {xs : Nat → Int32} (S : Sx Γ b L xs) (d : decode cc pc = .ok (.arraylength, 1)) (kk : Go Γ cs (pc + 1) lv (.int (nI L) :: st) sz K h) : Go Γ cs pc lv (.ref b :: st) sz K h := by
  obtain ⟨⟨p, l, e, R, s, m, args, below, meth, c⟩, D, cA, A, sp0, nL0, mc, ms, v0, zf0, Kf0, hf0⟩ := Γ
  obtain ⟨hx0, hb, -⟩ := X
  obtain ⟨s1, s2, s3⟩ := S
  intro H locs ls hl hR hS
  exact va_slen hx0 hb s1 s2 s3 hS d (kk H locs ls hl hR hS)
theorem g_lret {x : Int32} {ty : FieldType} (X : Ok Γ sp cc own nL (some ty) lev (some (.int x)) sz (fun _ => none) hf) (O : Ol Γ M N) (d : decode cc pc = .ok (.ireturn, 1)) (hn : narrow ty (.int x) = .int x) (h1 : cs.1 ≤ M) (h2 : cs.2 ≤ N) : Go Γ cs pc lv [.int x] sz K h := by
  obtain ⟨⟨p, l, e, R, s, m, args, below, meth, c⟩, D, cA, A, sp0, nL0, mc, ms, v0, zf0, Kf0, hf0⟩ := Γ
  obtain ⟨hx, hb, -, -, hr, -, -, hlocks, -, -, rfl, rfl, rfl, rfl, -⟩ := X
  obtain ⟨-, rfl, rfl⟩ := O
  intro H locs ls hl hR hS
  exact W.widen h1 h2 (W.zret hx hb hr hn (fun t ht hW => ⟨rfl, by rw [ht]; exact ⟨hR.1, fun b k hb => by cases hb⟩, hS.F ht⟩) hS.2.2 d hlocks)
end LawR
