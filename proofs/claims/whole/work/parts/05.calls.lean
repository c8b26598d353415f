/-! calls -/
def MLk (kind : Nat) (own : String) (idx : Nat) (y : MethodName) (b : ByteArray) (nL : Nat) (ret : Option FieldType) (n : Nat) : Prop := Cond.code y b nL ret ∈ lw_g ∧ Cond.initialized y.cls ∈ lw_g ∧ (Cond.methodLink own idx y ∈ lw_g ∨ ∃ host, Cond.methodLinkNest own idx y host ∈ lw_tbl) ∧ (y.cls ≠ "java/lang/invoke/MethodHandle" ∧ y.cls ≠ "java/lang/invoke/VarHandle" ∧ (parseMethodDescriptor y.desc).map (fun d => d.parameters.length) = some n) ∧ nL ≤ 21 ∧ (match kind with
  | 0 => Cond.instanceMethod y ∈ lw_g ∧ Cond.selects y.cls y y ∈ lw_g
  | 1 => Cond.static y ∈ lw_g
  | _ => y.name = "<init>" ∧ Cond.instanceMethod y ∈ lw_g)
theorem good_ws {y : MethodName} {b : ByteArray} {nL : Nat} {ret : Option FieldType} (h : Cond.code y b nL ret ∈ lw_g) : GoodIn lw_g (.code y b nL ret :: lw_g) := fun w hw => (List.mem_cons.mp hw).elim (fun e => e ▸ ⟨h, good_of_word (good_g h)⟩) (fun hw => ⟨hw, good_of_word (good_g hw)⟩)
section Calls
variable {p : Program} {l : Launch} {e : Env} {R : Room} {s : State} {m : MethodId} {args : Array Value} {below : List Frame} {meth : Method} {c : Code} {H : Heap} {locs : List Loc} {cells slots : Nat} {Q : State → Prop}
theorem run_go {pc : Nat} {ls : Array Slot} {rest st0 : List Value} {a : Array Value} {A : Nat → Prop} {D : va_G} {cA : Nat → ClassId} {mc ms zf : Nat} {Kf : Ly} {hf : Hp} {rv : Option Value} (hr : va_Run p l e R s m args below meth c H locs cells slots mc ms (F0 m pc ls st0) rest (QC D cA A rv zf Kf hf a) A) (hS : va_S A s.heap H locs)
    (kk : ∀ (H1 : Heap) (locs1 : List Loc), REL D cA A zf Kf hf H1 → va_S A s.heap H1 locs1 → W p l e R s m args below meth c H1 locs1 (cells + mc) (slots + ms) Q (F0 m (pc + 3) ls (rv.toList ++ rest))) : W p l e R s m args below meth c H locs cells slots Q (F0 m pc ls st0) := by
  intro T hT X
  obtain ⟨v, st₀, t, T', L, h0, X', hL, e1, e2, ⟨hv, hrel, hz, hk⟩, st⟩ := hr T hT X
  cases hv
  rw [h0] at hz hk
  obtain ⟨t2, a1, b1⟩ := kk T'.heap (locs ++ L) (by rw [e1]; exact hrel)
    ⟨Nat.le_trans hS.1 (by rw [e1]; exact hz), fun q h1 h2 => by rw [e1, hk q (Nat.lt_of_lt_of_le h1 hS.1) h2]; exact hS.2.1 q h1 h2, fun q hq => by
      rcases List.mem_append.mp hq with h | h
      · exact hS.2.2 q h
      · exact hL q h⟩ T' rfl X'
  exact ⟨t2, st t2 a1, b1⟩
end Calls
theorem pre_blind {D : va_G} {cA : Nat → ClassId} {A : Nat → Prop} {sp : Sp} {sz : Nat} {K : Ly} {h : Hp} {as : List Value} : FrameBlind (fun args U => args = as.toArray ∧ KE D cA A sp U U.heap ∧ REL D cA A sz K h U.heap) := fun _ U g mk q => ⟨q.1, KE.same (u := U) rfl q.2.1, q.2.2⟩
section Calls2
variable {Γ : CT} {sp : Sp} {cc : ByteArray} {own : String} {nL : Nat} {ret : Option FieldType} {lev : Nat} {v : Option Value} {zf : Nat} {Kf : Ly} {hf : Hp} {cs : Nat × Nat} {pc : Nat} {lv : List (Nat × Value)} {st : List Value} {sz : Nat} {K : Ly} {h : Hp}
theorem g_callV (X : Ok Γ sp cc own nL ret lev v zf Kf hf) {o ci idx n2 lev2 : Nat} {r : vw_C} {y : MethodName} {b : ByteArray} {ret2 : Option FieldType} {rv : Option Value} {h' : Hp} (As : List Value) (d : decode cc pc = .ok (.invokevirtual idx, 3)) (L : MLk 0 own idx y b n2 ret2 As.length) (hk : K o = some (.inl ci)) (hc : cls_l[ci]? = some r) (hy : r.1 = y.cls) (hlev : lev2 < lev) (hst : (st.map fun v => v.category).sum ≤ 8) (hM : Con sp y b n2 ret2 lev2 0 0 (.ref o :: As) sz K h rv sz K h') (kk : Go Γ (0, 0) (pc + 3) lv (rv.toList ++ st) sz K h') : Go Γ (0, 0) pc lv (As.reverse ++ .ref o :: st) sz K h := by
  obtain ⟨⟨p, l, e, R, s, m, args, below, meth, c⟩, D, cA, A, sp0, nL0, mc, ms, v0, zf0, Kf0, hf0⟩ := Γ
  obtain ⟨hx, hb, hml, rfl, -, hown, hts, -, hE, ⟨hR1, hR2, -, -⟩, -, -, -, -, rfl⟩ := X
  intro H locs ls hl hR hS
  obtain ⟨hcode, hini, hlink, hd, hn21, hin, hsel⟩ := L
  obtain ⟨r', h1, cell, q1, q2, q3, q4⟩ := (hR.2 o _ hk).2
  have hcls := (hE.1.1 ci r hc).2
  have hpre : PreV s H y.cls o (fun args U => args = (Value.ref o :: As).toArray ∧ KE D cA A sp0 U U.heap ∧ REL D cA A sz K h U.heap) As := ⟨pre_blind, ⟨cell, q1, by rw [q3]; rfl, by rw [q2, ← hy]; exact hcls.1⟩, fun U hU hW => ⟨rfl, by rw [hU]; exact hE.warm hW hS.2.1, by rw [hU]; exact hR⟩⟩
  have hRm : (rmL lev2 0 0).frames + 1 ≤ R.frames ∧ 8 + (n2 + 11) + (rmL lev2 0 0).locals ≤ R.locals := ⟨Nat.le_trans hlev hR1, Nat.le_trans (by show 8 + (n2 + 11) + 40 * lev2 ≤ 40 * lev; omega) hR2⟩
  have hM2 := hM l D cA A (fun h => absurd h (Nat.lt_irrefl 0))
  rcases hlink with hlink | ⟨host, hlink⟩
  · exact run_go (va_runV (own := own) (n := As.length) (Ts := lw_g) ⟨hx, hb, hml, hown, hts⟩ hM2 ⟨callB_of As.length hts (good_ws hcode) rfl rfl rfl (hts _ hini) (hts _ hlink) hd hRm, hts _ hin, hts _ hsel⟩ hpre rfl rfl hl.1 rfl (lv_room hst) d ⟨Nat.zero_le _, Nat.zero_le _⟩) hS (fun H1 locs1 hr1 hs1 => kk H1 locs1 ls hl hr1 hs1)
  · exact run_go (va_runVN (own := own) (n := As.length) (Ts := lw_g) ⟨hx, hb, hml, hown, hts⟩ hM2 ⟨va_cnB As.length hts (good_ws hcode) rfl rfl rfl (hE.2.1 _ hlink rfl) (hts _ hini) hd hRm, hts _ hin, hts _ hsel⟩ hpre rfl rfl hl.1 rfl (lv_room hst) d ⟨Nat.zero_le _, Nat.zero_le _⟩) hS (fun H1 locs1 hr1 hs1 => kk H1 locs1 ls hl hr1 hs1)
theorem g_callS (X : Ok Γ sp cc own nL ret lev v zf Kf hf) {idx n2 lev2 : Nat} {y : MethodName} {b : ByteArray} {ret2 : Option FieldType} {rv : Option Value} {h' : Hp} (As : List Value) (d : decode cc pc = .ok (.invokestatic idx, 3)) (L : MLk 1 own idx y b n2 ret2 As.length) (hlev : lev2 < lev) (hst : (st.map fun v => v.category).sum ≤ 8) (hM : Con sp y b n2 ret2 lev2 0 0 As sz K h rv sz K h') (kk : Go Γ (0, 0) (pc + 3) lv (rv.toList ++ st) sz K h') : Go Γ (0, 0) pc lv (As.reverse ++ st) sz K h := by
  obtain ⟨⟨p, l, e, R, s, m, args, below, meth, c⟩, D, cA, A, sp0, nL0, mc, ms, v0, zf0, Kf0, hf0⟩ := Γ
  obtain ⟨hx, hb, hml, rfl, -, hown, hts, -, hE, ⟨hR1, hR2, -, -⟩, -, -, -, -, rfl⟩ := X
  intro H locs ls hl hR hS
  obtain ⟨hcode, hini, hlink, hd, hn21, hsta⟩ := L
  have hpre : PreS s H (fun args U => args = As.toArray ∧ KE D cA A sp0 U U.heap ∧ REL D cA A sz K h U.heap) As := ⟨pre_blind, fun U hU hW => ⟨rfl, by rw [hU]; exact hE.warm hW hS.2.1, by rw [hU]; exact hR⟩⟩
  have hRm : (rmL lev2 0 0).frames + 1 ≤ R.frames ∧ 8 + (n2 + 11) + (rmL lev2 0 0).locals ≤ R.locals := ⟨Nat.le_trans hlev hR1, Nat.le_trans (by show 8 + (n2 + 11) + 40 * lev2 ≤ 40 * lev; omega) hR2⟩
  have hM2 := hM l D cA A (fun h => absurd h (Nat.lt_irrefl 0))
  rcases hlink with hlink | ⟨host, hlink⟩
  · exact run_go (va_runS (own := own) (n := As.length) (Ts := lw_g) ⟨hx, hb, hml, hown, hts⟩ hM2 ⟨callB_of As.length hts (good_ws hcode) rfl rfl rfl (hts _ hini) (hts _ hlink) hd hRm, hts _ hsta⟩ hpre rfl rfl hl.1 rfl (lv_room hst) d ⟨Nat.zero_le _, Nat.zero_le _⟩) hS (fun H1 locs1 hr1 hs1 => kk H1 locs1 ls hl hr1 hs1)
  · exact run_go (va_runSN (own := own) (n := As.length) (Ts := lw_g) ⟨hx, hb, hml, hown, hts⟩ hM2 ⟨va_cnB As.length hts (good_ws hcode) rfl rfl rfl (hE.2.1 _ hlink rfl) (hts _ hini) hd hRm, hts _ hsta, trivial⟩ hpre rfl rfl hl.1 rfl (lv_room hst) d ⟨Nat.zero_le _, Nat.zero_le _⟩) hS (fun H1 locs1 hr1 hs1 => kk H1 locs1 ls hl hr1 hs1)
end Calls2
