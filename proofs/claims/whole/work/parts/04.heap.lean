/-! fields and arrays -/
def CKs (ci : Nat) (C : String) (T : u_T) (N : Nat) : Prop := cls_l[ci]? = some (C, T, N) ∧ (∀ w ∈ u_ws C T N, w ∈ lw_g) ∧ (∀ k, k < N → (T k).1 = C) ∧ (∃ ty0 : Nat → FieldType, ∀ k, k < N → parseFieldDescriptor (T k).2.2.1 = some (ty0 k)) ∧ (∀ a, a < N → ∀ b, b < N → a ≠ b → (T a).2.1 ≠ (T b).2.1)
def FLk (own : String) (idx ci k : Nat) : Prop := ∃ (C : String) (T : u_T) (N : Nat), CKs ci C T N ∧ k < N ∧ (Cond.fieldLink own idx C (T k).2.1 (T k).2.2.1 ∈ lw_g ∨ ∃ host, Cond.fieldLinkNest own idx C (T k).2.1 (T k).2.2.1 host ∈ lw_tbl)
def FPk (ci k : Nat) (ty : FieldType) (fin : Bool) : Prop := ∀ (C : String) (T : u_T) (N : Nat), cls_l[ci]? = some (C, T, N) → (T k).2.2.2 = fin ∧ parseFieldDescriptor (T k).2.2.1 = some ty
theorem tV_I {h : Hp} {a k j c : Nat} {x : Int32} (hj : j ≠ k) : tV c (sI h a k x) a j = tV c h a j := by
  match c with
  | 0 => simp [tV, sI, hj]
  | 1 => rfl
  | 2 => rfl
  | c + 3 => rfl
theorem tV_L {h : Hp} {a k j c : Nat} {x : Int64} (hj : j ≠ k) : tV c (sL h a k x) a j = tV c h a j := by
  match c with
  | 0 => rfl
  | 1 => simp [tV, sL, hj]
  | 2 => rfl
  | c + 3 => rfl
theorem tV_R {h : Hp} {a k j c : Nat} {x : Option Nat} (hj : j ≠ k) : tV c (sR h a k x) a j = tV c h a j := by
  match c with
  | 0 => rfl
  | 1 => rfl
  | 2 => simp [tV, sR, hj]
  | c + 3 => rfl
/-- a cell's value: of a kind, and what a write of it does to the abstract heap -/
def Wr (c : Nat) (h : Hp) (a k : Nat) (x : Value) (h' : Hp) : Prop := tV c h' a k = x ∧ (∀ (c j : Nat), j ≠ k → tV c h' a j = tV c h a j) ∧ ∀ b, b ≠ a → ∀ c j, tV c h' b j = tV c h b j
theorem Wr.i {h : Hp} {a k : Nat} {x : Int32} : Wr 0 h a k (.int x) (sI h a k x) := ⟨by simp [tV, sI], fun _ _ hj => tV_I hj, fun _ hb c j => tV_sI hb c j⟩
theorem Wr.l {h : Hp} {a k : Nat} {x : Int64} : Wr 1 h a k (.long x) (sL h a k x) := ⟨by simp [tV, sL], fun _ _ hj => tV_L hj, fun _ hb c j => tV_sL hb c j⟩
theorem Wr.r {h : Hp} {a k : Nat} {x : Option Nat} : Wr 2 h a k (va_rf x) (sR h a k x) := ⟨by simp [tV, sR], fun _ _ hj => tV_R hj, fun _ hb c j => tV_sR hb c j⟩
theorem fits_nb (z : Int32) : fits .byte (narrow .byte (.int z)) = true := pk_fb z
section Heap
variable {Γ : CT} {sp : Sp} {cc : ByteArray} {own : String} {nL : Nat} {ret : Option FieldType} {lev : Nat} {v : Option Value} {zf : Nat} {Kf : Ly} {hf : Hp} {cs : Nat × Nat} {pc : Nat} {lv : List (Nat × Value)} {st : List Value} {sz : Nat} {K : Ly} {h : Hp}
theorem g_getf (X : Ok Γ sp cc own nL ret lev v zf Kf hf) {a ci k idx : Nat} {x : Value} (d : decode cc pc = .ok (.getfield idx, 3)) (F : FLk own idx ci k) (hk : K a = some (.inl ci)) (hv : tV (fc ci k) h a k = x) (kk : Go Γ cs (pc + 3) lv (x :: st) sz K h) : Go Γ cs pc lv (.ref a :: st) sz K h := by
  obtain ⟨⟨p, l, e, R, s, m, args, below, meth, c⟩, D, cA, A, sp0, nL0, mc, ms, v0, zf0, Kf0, hf0⟩ := Γ
  obtain ⟨hx, hb, -, -, -, hown, hts, -, hE, -⟩ := X
  intro H locs ls hl hR hS
  obtain ⟨C, T, N, ⟨hc, hin, hsame, -, -⟩, hkN, F⟩ := F
  obtain ⟨r, h1, cell, q1, q2, q3, q4⟩ := (hR.2 a _ hk).2
  have hr : r = (C, T, N) := Option.some.inj (h1.symm.trans hc)
  subst hr
  obtain ⟨hSl, hfc, kC, hkC, hkind⟩ := hE.1.1 ci _ hc
  obtain ⟨cf, kf, fi, f, hi, hsl⟩ := hSl k hkN
  have hst := (u_facts hfc hkC (u_lays hts hin hkN) hi).1
  rw [hsame k hkN] at hi
  rcases F with F | ⟨host, F⟩
  · exact W.getf hx hb hown (hts _ F) hi hst q1 (by rw [q3]; exact fun h => by cases h) (v := x) (by rw [hsl, q4 k hkN, ← hv]) rfl rfl d (kk H locs ls hl hR hS)
  · exact va_Wgetf hx hb hown (va_Nw.use rfl (hE.2.1 _ F rfl)) hi hst q1 (by rw [q3]; exact fun h => by cases h) (v := x) (by rw [hsl, q4 k hkN, ← hv]) rfl rfl d (kk H locs ls hl hR hS)
theorem g_putf (X : Ok Γ sp cc own nL ret lev v zf Kf hf) {a ci k idx : Nat} {x : Value} {h' : Hp} {ty : FieldType} (d : decode cc pc = .ok (.putfield idx, 3)) (F : FLk own idx ci k) (P : FPk ci k ty false) (hn : narrow ty x = x) (hfit : fits ty x = true) (hk : K a = some (.inl ci)) (hw : Wr (fc ci k) h a k x h') (kk : Go Γ cs (pc + 3) lv st sz K h') : Go Γ cs pc lv (x :: .ref a :: st) sz K h := by
  obtain ⟨⟨p, l, e, R, s, m, args, below, meth, c⟩, D, cA, A, sp0, nL0, mc, ms, v0, zf0, Kf0, hf0⟩ := Γ
  obtain ⟨hx, hb, -, -, -, hown, hts, -, hE, -⟩ := X
  intro H locs ls hl hR hS
  obtain ⟨C, T, N, ⟨hc, hin, hsame, ⟨ty0, hty⟩, hnm⟩, hkN, F⟩ := F
  obtain ⟨hAa, r, h1, cell, q1, q2, q3, q4⟩ := hR.2 a _ hk
  have hr : r = (C, T, N) := Option.some.inj (h1.symm.trans hc)
  subst hr
  have hK : va_K D cls_l [] s := ⟨hE.1.1, fun k q h => by simp at h⟩
  have hap := va_apart (own := own) hts hin ty0 hty hnm hK hc
  obtain ⟨hSl, hfc, kC, hkC, hkind⟩ := hE.1.1 ci _ hc
  obtain ⟨cf, kf, fi, f, hi, hsl⟩ := hSl k hkN
  obtain ⟨hfin, hd⟩ := P _ _ _ hc
  have hlay := hts _ (hin _ (u_in_lay hkN))
  unfold u_lay at hlay
  rw [if_neg (by rw [hfin]; decide)] at hlay
  have hst := (u_facts hfc hkC (u_lays hts hin hkN) hi).1
  have h6 := u_store hfc hkC hkind hlay hi hd hn hfit
  rw [hsame k hkN] at hi
  have fin : ∀ H' : Heap, H'[a]? = some (cell.setSlot f.slot x) → H'.size = H.size → (∀ q, q ≠ a → H'[q]? = H[q]?) → W p l e R s m args below meth c H' (locs ++ [⟨a, f.slot⟩]) cs.1 cs.2 (MQ below (QC D cA A v0 zf0 Kf0 hf0) args s mc ms A) (F0 m (pc + 3) ls st) := by
    intro H' e1 e2 e3
    rw [hsl] at e1
    refine kk H' _ ls hl (hR.one e2 e3 hw.2.2 ?_) (hS.put e2 e3 hAa)
    intro kd hkd
    obtain rfl : kd = .inl ci := Option.some.inj (hkd.symm.trans hk)
    refine ⟨_, hc, t_OB.to (V := updV (fun j => tV (fc ci j) h a j) k x) ⟨_, e1, q2, q3, t_set q4 hap hkN x⟩ (fun j _ => ?_)⟩
    by_cases hj : j = k
    · subst hj; simp only [updV, if_true]; exact hw.1.symm
    · simp only [updV, if_neg hj]; exact (hw.2.1 _ _ hj).symm
  rcases F with F | ⟨host, F⟩
  · exact W.putK hx hb (f := f) ⟨hown, hts _ F, ⟨_, _, _, hi⟩, hst⟩ (by rw [q2]; exact h6) q1 q3 (by rw [hsl]; exact k2_hasslot (q4 k hkN)) rfl rfl d fin
  · exact va_WputK hx hb (f := f) hown (va_Nw.use rfl (hE.2.1 _ F rfl)) hi hst (by rw [q2]; exact h6) q1 q3 (by rw [hsl]; exact k2_hasslot (q4 k hkN)) rfl rfl d fin
/-! arrays -/
theorem g_ald (X : Ok Γ sp cc own nL ret lev v zf Kf hf) {a t n : Nat} {i : Int32} {x : Value} (d : decode cc pc = .ok (.iaload, 1) ∧ t = 0 ∨ decode cc pc = .ok (.baload, 1) ∧ t = 1 ∨ decode cc pc = .ok (.baload, 1) ∧ t = 2 ∨ decode cc pc = .ok (.laload, 1) ∧ t = 3 ∨ decode cc pc = .ok (.aaload, 1) ∧ ∃ C, ty_l[t]? = some (.object C)) (hk : K a = some (.inr (t, n))) (hi : vp_in i n) (hv : tV (ek t) h a i.toNatClampNeg = x) (kk : Go Γ cs (pc + 1) lv (x :: st) sz K h) : Go Γ cs pc lv (.int i :: .ref a :: st) sz K h := by
  obtain ⟨⟨p, l, e, R, s, m, args, below, meth, c⟩, D, cA, A, sp0, nL0, mc, ms, v0, zf0, Kf0, hf0⟩ := Γ
  obtain ⟨hx, hb, -, -, -, hown, hts, -, hE, -⟩ := X
  intro H locs ls hl hR hS
  have hlt : i.toNatClampNeg < n := Nat.not_le.mp fun q => hi (Or.inr q)
  have hcell := (hR.2 a _ hk).2.1
  have hin2 : ¬ (i < 0 ∨ (arrV (cA t) n (fun j => tV (ek t) h a j)).slots.size ≤ i.toNatClampNeg) := by rw [arrV_size]; exact hi
  have hv2 : (arrV (cA t) n (fun j => tV (ek t) h a j)).slots[i.toNatClampNeg]? = some x := by rw [arrV_read _ _ hlt, hv]
  rcases d with ⟨d, rfl⟩ | ⟨d, rfl⟩ | ⟨d, rfl⟩ | ⟨d, rfl⟩ | ⟨d, C, hC⟩
  · exact W.iald (v := x) hx hb hcell ((hE.1.2 0 _ rfl).1 n _) (fun q => by cases q) hin2 hv2 rfl rfl d (kk H locs ls hl hR hS)
  · exact W.bald (v := x) hx hb hcell ((hE.1.2 1 _ rfl).1 n _) (fun q => by cases q) hin2 hv2 rfl rfl d (kk H locs ls hl hR hS)
  · exact W.zald (v := x) hx hb hcell ((hE.1.2 2 _ rfl).1 n _) (fun q => by cases q) hin2 hv2 rfl rfl d (kk H locs ls hl hR hS)
  · exact W.lald (v := x) hx hb hcell ((hE.1.2 3 _ rfl).1 n _) (fun q => by cases q) hin2 hv2 rfl rfl d (kk H locs ls hl hR hS)
  · exact W.aald (v := x) hx hb hcell ((hE.1.2 t _ hC).1 n _) rfl (fun q => by cases q) hin2 hv2 rfl rfl d (kk H locs ls hl hR hS)
theorem g_alen (X : Ok Γ sp cc own nL ret lev v zf Kf hf) {a t n : Nat} {x : Int32} (d : decode cc pc = .ok (.arraylength, 1)) (hk : K a = some (.inr (t, n))) (ht : ∃ ty, ty_l[t]? = some ty) (hv : Int32.ofNat n = x) (kk : Go Γ cs (pc + 1) lv (.int x :: st) sz K h) : Go Γ cs pc lv (.ref a :: st) sz K h := by
  obtain ⟨⟨p, l, e, R, s, m, args, below, meth, c⟩, D, cA, A, sp0, nL0, mc, ms, v0, zf0, Kf0, hf0⟩ := Γ
  obtain ⟨hx, hb, -, -, -, hown, hts, -, hE, -⟩ := X
  intro H locs ls hl hR hS
  obtain ⟨ty, ht⟩ := ht
  have hcell := (hR.2 a _ hk).2.1
  exact W.alen hx hb hcell ((hE.1.2 t _ ht).1 n _) (by rw [arrV_size]; exact hv) rfl rfl d (kk H locs ls hl hR hS)
/-- behind a store into an array -/
theorem st_fin {D : va_G} {cA : Nat → ClassId} {A : Nat → Prop} {h' : Hp} {H H' : Heap} {a t n j : Nat} {x : Value} (hR : REL D cA A sz K h H) (hk : K a = some (.inr (t, n))) (hw : Wr (ek t) h a j x h') (hby : t = 1 → fits .byte x = true) (e : H'[a]? = some ((arrV (cA t) n (fun q => tV (ek t) h a q)).setSlot j x)) (z : H'.size = H.size) (oq : ∀ q, q ≠ a → H'[q]? = H[q]?) : REL D cA A sz K h' H' := by
  refine hR.one z oq hw.2.2 ?_
  intro kd hkd
  obtain rfl : kd = .inr (t, n) := Option.some.inj (hkd.symm.trans hk)
  refine ⟨?_, fun ht q hq => ?_⟩
  · rw [e, arrV_store]
    congr 2
    funext q
    by_cases hq : q = j
    · subst hq; simp only [updV, if_true]; exact hw.1.symm
    · simp only [updV, if_neg hq]; exact (hw.2.1 _ _ hq).symm
  · by_cases hqj : q = j
    · subst hqj; subst ht
      have e2 : Value.int (h'.1 a q) = x := hw.1
      rw [e2]; exact hby rfl
    · have e2 : Value.int (h'.1 a q) = .int (h.1 a q) := hw.2.1 0 q hqj
      rw [e2]; exact (hR.2 a _ hk).2.2 ht q hq
theorem g_ast (X : Ok Γ sp cc own nL ret lev v zf Kf hf) {a t n : Nat} {i : Int32} {x y : Value} {h' : Hp} (d : (decode cc pc = .ok (.iastore, 1) ∧ t = 0 ∧ (∃ z, x = .int z) ∧ y = x) ∨ (decode cc pc = .ok (.bastore, 1) ∧ t = 1 ∧ (∃ z, x = .int z) ∧ y = narrow .byte x) ∨ (decode cc pc = .ok (.bastore, 1) ∧ t = 2 ∧ (∃ z, x = .int z) ∧ y = narrow .boolean x) ∨ (decode cc pc = .ok (.lastore, 1) ∧ t = 3 ∧ (∃ z, x = .long z) ∧ y = x)) (hk : K a = some (.inr (t, n))) (hi : vp_in i n) (hw : Wr (ek t) h a i.toNatClampNeg y h') (kk : Go Γ cs (pc + 1) lv st sz K h') : Go Γ cs pc lv (x :: .int i :: .ref a :: st) sz K h := by
  obtain ⟨⟨p, l, e, R, s, m, args, below, meth, c⟩, D, cA, A, sp0, nL0, mc, ms, v0, zf0, Kf0, hf0⟩ := Γ
  obtain ⟨hx, hb, -, -, -, hown, hts, -, hE, -⟩ := X
  intro H locs ls hl hR hS
  have hAa := (hR.2 a _ hk).1
  have hcell := (hR.2 a _ hk).2.1
  have hin2 : ¬ (i < 0 ∨ (arrV (cA t) n (fun j => tV (ek t) h a j)).slots.size ≤ i.toNatClampNeg) := by rw [arrV_size]; exact hi
  rcases d with ⟨d, rfl, ⟨z, rfl⟩, rfl⟩ | ⟨d, rfl, ⟨z, rfl⟩, rfl⟩ | ⟨d, rfl, ⟨z, rfl⟩, rfl⟩ | ⟨d, rfl, ⟨z, rfl⟩, rfl⟩
  · exact W.iast hx hb hcell ((hE.1.2 0 _ rfl).1 n _) (fun q => by cases q) hin2 rfl rfl d (fun H1 e z oq => kk H1 _ ls hl (st_fin hR hk hw (fun h => by cases h) e z oq) (hS.put z oq hAa))
  · exact W.bast hx hb hcell ((hE.1.2 1 _ rfl).1 n _) (fun q => by cases q) hin2 rfl rfl d (fun H1 e z oq => kk H1 _ ls hl (st_fin hR hk hw (fun _ => fits_nb _) e z oq) (hS.put z oq hAa))
  · exact W.zast hx hb hcell ((hE.1.2 2 _ rfl).1 n _) (fun q => by cases q) hin2 rfl rfl d (fun H1 e z oq => kk H1 _ ls hl (st_fin hR hk hw (fun h => by cases h) e z oq) (hS.put z oq hAa))
  · exact W.last hx hb hcell ((hE.1.2 3 _ rfl).1 n _) (fun q => by cases q) hin2 rfl rfl d (fun H1 e z oq => kk H1 _ ls hl (st_fin hR hk hw (fun h => by cases h) e z oq) (hS.put z oq hAa))
/-- a reference into an array -/
theorem g_aast (X : Ok Γ sp cc own nL ret lev v zf Kf hf) {a b ci t n : Nat} {i : Int32} {r : vw_C} (d : decode cc pc = .ok (.aastore, 1)) (hk : K a = some (.inr (t, n))) (ht : ty_l[t]? = some (.object r.1)) (hc : cls_l[ci]? = some r) (hek : ek t = 2) (hb0 : K b = some (.inl ci)) (hi : vp_in i n) (kk : Go Γ cs (pc + 1) lv st sz K (sR h a i.toNatClampNeg (some b))) : Go Γ cs pc lv (.ref b :: .int i :: .ref a :: st) sz K h := by
  obtain ⟨⟨p, l, e, R, s, m, args, below, meth, c⟩, D, cA, A, sp0, nL0, mc, ms, v0, zf0, Kf0, hf0⟩ := Γ
  obtain ⟨hx, hb, -, -, -, hown, hts, -, hE, -⟩ := X
  intro H locs ls hl hR hS
  have hlt : i.toNatClampNeg < n := Nat.not_le.mp fun q => hi (Or.inr q)
  have h0 : ¬ i < 0 := fun q => hi (Or.inl q)
  have hAa := (hR.2 a _ hk).1
  have hcell := (hR.2 a _ hk).2.1
  obtain ⟨r', hr', cellV, g1, g2, g3, -⟩ := (hR.2 b _ hb0).2
  have hcls := (hE.1.1 ci r hc).2
  obtain ⟨kA, comp, k1, k2, k3, -⟩ := (hE.1.2 t _ ht).2
  have hcomp : comp = D.1 ci := Option.some.inj (k3.symm.trans hcls.1)
  subst hcomp
  obtain ⟨kC, hkC, -⟩ := hcls.2
  refine W.aast hx hb hcell (fun q h => by cases h) (fun h => by cases h) k1 k2 rfl hkC ⟨h0, by show _ < (arrV _ _ _).slots.size; rw [arrV_size]; exact hlt⟩ g1 (fun q h => by rw [g3] at h; cases h) (by rw [g2]; exact hkC) (by rw [g2]; exact va_assign hcls) rfl rfl d fun H1 e z oq => ?_
  exact kk H1 _ ls hl (st_fin (x := .ref b) hR hk (hek ▸ Wr.r) (fun h => by subst h; cases hek) e z oq) (hS.put z oq hAa)
end Heap
