/-! constructors -/
def AO (U : State) : Prop := ∀ (t : Nat) (C : String), ty_l[t]? = some (.object C) → va_AO C U
theorem AO.moved {u U : State} (hvm : u.vm.Alike U.vm) (h : AO u) : AO U := fun t C ht => (h t C ht).moved hvm
def AOg (Γ : CT) : Prop :=
  match Γ with
  | ⟨⟨_, _, _, _, s, _, _, _, _, _⟩, _⟩ => AO s
def kS (K : Ly) (a : Nat) (kd : Kd) : Ly := fun q => if q = a then some kd else K q
def zr (h : Hp) (a : Nat) : Hp := (fun q k => if q = a then 0 else h.1 q k, fun q k => if q = a then 0 else h.2.1 q k, fun q k => if q = a then none else h.2.2 q k)
theorem kS_ne {K : Ly} {a b : Nat} {kd : Kd} {r : Option Kd} (h : K a = r) (hne : a ≠ b) : kS K b kd a = r := by simp [kS, hne, h]
theorem kS_eq {K : Ly} {b : Nat} {kd : Kd} : kS K b kd b = some kd := by simp [kS]
theorem tV_zr {h : Hp} {a b : Nat} (hb : b ≠ a) (c j : Nat) : tV c (zr h a) b j = tV c h b j := by
  match c with
  | 0 => simp [tV, zr, hb]
  | 1 => simp [tV, zr, hb]
  | 2 => simp [tV, zr, hb]
  | c + 3 => rfl
theorem RO.lt {D : va_G} {cA : Nat → ClassId} {h : Hp} {a : Nat} {H : Heap} {k : Kd} (hr : RO D cA h a H k) : a < H.size := by
  match k with
  | .inl ci =>
    obtain ⟨r, e1, ce, e2, e3⟩ := hr
    exact (Array.getElem?_eq_some_iff.mp e2).1
  | .inr (t, n) => exact (Array.getElem?_eq_some_iff.mp hr.1).1
theorem REL.push {D : va_G} {cA : Nat → ClassId} {A : Nat → Prop} {sz : Nat} {K : Ly} {h : Hp} {H H1 : Heap} {kd : Kd} (hr : REL D cA A sz K h H) (z : H1.size = sz + 1) (oq : ∀ q : Nat, q < sz → H1[q]? = H[q]?) (hA : A sz) (hn : RO D cA (zr h sz) sz H1 kd) : REL D cA A (sz + 1) (kS K sz kd) (zr h sz) H1 := by
  refine ⟨z, fun b k hk => ?_⟩
  by_cases hb : b = sz
  · subst hb
    rw [kS_eq] at hk
    cases hk
    exact ⟨hA, hn⟩
  · have hk : K b = some k := by rw [← hk]; simp [kS, hb]
    obtain ⟨h1, h2⟩ := hr.2 b k hk
    have hlt : b < sz := by rw [← hr.1]; exact h2.lt
    exact ⟨h1, h2.kept (oq b hlt) (fun c j => tV_zr hb c j)⟩
def ConI (sp : Sp) (y : MethodName) (b : ByteArray) (nL lev mc ms o sz : Nat) (K : Ly) (h : Hp) (zf : Nat) (Kf : Ly) (hf : Hp) : Prop :=
  ∀ (l : Launch) (D : va_G) (cA : Nat → ClassId) (A : Nat → Prop), (∀ q, sz ≤ q → A q) → Met l y (.code y b nL none :: lw_g) (rmL lev mc ms) (fun args U => args = ([.ref o] : List Value).toArray ∧ AO U ∧ KE D cA A sp U U.heap ∧ REL D cA A sz K h U.heap) (QC D cA A none zf Kf hf) mc ms A
theorem ConI.of {sp : Sp} {y : MethodName} {b : ByteArray} {nL lev mc ms o sz : Nat} {K : Ly} {h : Hp} {zf : Nat} {Kf : Ly} {hf : Hp} (hy : plainName y.cls = true) (hnm : y.name = "<init>") (hn : 1 ≤ nL)
    (k : ∀ Γ : CT, Ok Γ sp b y.cls nL none lev none zf Kf hf → Oi Γ mc ms → AOg Γ → Go Γ (0, 0) 0 [(0, .ref o)] [] sz K h) : ConI sp y b nL lev mc ms o sz K h zf Kf hf := by
  intro l D cA A hA
  refine Met.ofW (cc := b) (maxL := nL) (ret := none) hy rfl ?_
  intro p e s m args below meth c s₁ B hml hv
  obtain ⟨rfl, hao, hK, hR⟩ := hv
  have hts := atoms_spec (ws := .code y b nL none :: lw_g) B.pre
  have hown : s.vm.findClass y.cls = some m.cls := findClass_of_methodNamed B.named
  have hnm2 := (name_of_methodNamed B.named B.method).1
  rw [lg_entry_eq]
  have hl := lv_entry [.ref o] (n := nL) hn
  exact k ⟨⟨p, l, e, _, s, m, ([.ref o] : List Value).toArray, below, meth, c⟩, D, cA, A, sp, nL, mc, ms, none, zf, Kf, hf⟩ ⟨B.exec, B.bytes, hml, rfl, B.returns, hown, fun w hw => hts w (List.mem_cons_of_mem _ hw), B.notSynchronized, hK, ⟨Nat.le_refl _, Nat.le_refl _, rfl, rfl⟩, rfl, rfl, rfl, rfl, rfl⟩ ⟨hnm2.trans hnm, fun q hq => hA q (by rw [← hR.1]; exact hq), rfl, rfl⟩ hao _ [] _ hl hR va_S.rf
section Init
variable {Γ : CT} {sp : Sp} {cc : ByteArray} {own : String} {nL : Nat} {ret : Option FieldType} {lev : Nat} {v : Option Value} {zf : Nat} {Kf : Ly} {hf : Hp} {cs : Nat × Nat} {pc : Nat} {lv : List (Nat × Value)} {st : List Value} {sz : Nat} {K : Ly} {h : Hp} {M N : Nat}
theorem i_new (X : Ok Γ sp cc own nL ret lev v zf Kf hf) (O : Oi Γ M N) {idx ci n : Nat} {C : String} {T : u_T} (d : decode cc pc = .ok (.new idx, 3)) (P : CKs ci C T n) (hcl : Cond.classLink own idx C ∈ lw_g) (hinst : Cond.instantiable C n ∈ lw_g) (hini : Cond.initialized C ∈ lw_g) (hdef : ∀ (ty : Nat → FieldType), (∀ k, k < n → parseFieldDescriptor (T k).2.2.1 = some (ty k)) → ∀ k, k < n → defaultValue (ty k) = (match fc ci k with
      | 0 => Value.int 0
      | 1 => .long 0
      | _ => .null)) (hraw : ∀ k, k < n → fc ci k ≤ 2) (hcells : cs.1 + 1 ≤ M) (hslots : cs.2 + n ≤ N) (kk : Go Γ (cs.1 + 1, cs.2 + n) (pc + 3) lv (.ref sz :: st) (sz + 1) (kS K sz (.inl ci)) (zr h sz)) : Go Γ cs pc lv st sz K h := by
  obtain ⟨⟨p, l, e, R, s, m, args, below, meth, c⟩, D, cA, A, sp0, nL0, mc, ms, v0, zf0, Kf0, hf0⟩ := Γ
  obtain ⟨hx, hb, -, -, -, hown, hts, -, hE, ⟨-, -, rfl, rfl⟩, -⟩ := X
  obtain ⟨-, hA, rfl, rfl⟩ := O
  obtain ⟨hc, hin, hsame, ⟨ty, hty⟩, hnm⟩ := P
  intro H locs ls hl hR hS
  have hKn := hE.1.1 ci _ hc
  refine W.newcK hx hb hown (hts _ hcl) (hts _ hinst) (hts _ hini) rfl d hcells hslots hKn.2.1 hR.1 fun H1 kC hkC e1 z1 o1 => ?_
  refine kk H1 locs ls hl (hR.push z1 o1 (hA _ (by rw [← hR.1]; exact hS.1)) ⟨_, hc, (u_born ty hts hin hKn hkC e1 hty).to (fun j hj => ?_)⟩) ⟨by rw [z1, ← hR.1]; exact Nat.le_succ_of_le hS.1, fun x h1 h2 => (o1 x (by rw [← hR.1]; exact Nat.lt_of_lt_of_le h1 hS.1)).trans (hS.2.1 x h1 h2), hS.2.2⟩
  rw [hdef ty hty j hj]
  have h2 := hraw j hj
  match fc ci j, h2 with
  | 0, _ => simp [tV, zr]
  | 1, _ => simp [tV, zr]
  | 2, _ => simp [tV, zr, va_rf]
theorem i_newa (X : Ok Γ sp cc own nL ret lev v zf Kf hf) (O : Oi Γ M N) {t n : Nat} {x : Int32} {aty : ArrayType} (d : decode cc pc = .ok (.newarray aty, 2)) (ht : t < 4) (hty : ty_l[t]? = some (newarray.typeOf aty)) (hw : Cond.arrayClass (newarray.typeOf aty) ∈ lw_g) (hdef : defaultValue (newarray.typeOf aty) = (match ek t with
      | 0 => Value.int 0
      | _ => .long 0)) (hx0 : ¬ x < 0) (hxn : x.toNatClampNeg = n) (hbt : n * componentBytes (newarray.typeOf aty) ≤ 536870912) (hcells : cs.1 + 1 ≤ M) (hslots : cs.2 + n ≤ N) (kk : Go Γ (cs.1 + 1, cs.2 + n) (pc + 2) lv (.ref sz :: st) (sz + 1) (kS K sz (.inr (t, n))) (zr h sz)) : Go Γ cs pc lv (.int x :: st) sz K h := by
  obtain ⟨⟨p, l, e, R, s, m, args, below, meth, c⟩, D, cA, A, sp0, nL0, mc, ms, v0, zf0, Kf0, hf0⟩ := Γ
  obtain ⟨hx, hb, -, -, -, hown, hts, -, hE, ⟨-, -, rfl, rfl⟩, -⟩ := X
  obtain ⟨-, hA, rfl, rfl⟩ := O
  intro H locs ls hl hR hS
  subst hxn
  refine W.newa hx hb (hts _ hw) rfl d rfl hx0 hbt hcells hslots fun cA2 kA comp f1 f2 f3 => ?_
  have hra := (hE.1.2 t _ hty).2
  have hcA : cA2 = cA t := by
    have h2 : s.vm.findClass ("[" ++ (newarray.typeOf aty).toString) = some (cA t) := by
      cases aty <;> exact hra
    exact Option.some.inj (f1.symm.trans h2)
  subst hcA
  generalize hH1 : H.push ({ cls := cA t, slots := Array.replicate x.toNatClampNeg (defaultValue (newarray.typeOf aty)), vm := .none } : Cell) = H1
  have z1 : H1.size = sz + 1 := by rw [← hH1, Array.size_push, hR.1]
  have e1 : H1[sz]? = some (arrV (cA t) x.toNatClampNeg (fun _ => defaultValue (newarray.typeOf aty))) := by rw [← hH1, ← hR.1, Array.getElem?_push_size, ← arrV_new]
  have o1 : ∀ q : Nat, q < sz → H1[q]? = H[q]? := fun q hq => by rw [← hH1, Array.getElem?_push, if_neg (by rw [hR.1]; exact Nat.ne_of_lt hq)]
  rw [hR.1]
  refine kk H1 locs ls hl (hR.push z1 o1 (hA _ (by rw [← hR.1]; exact hS.1)) ⟨?_, fun _ j _ => by simp [zr]; decide⟩) ⟨by rw [z1, ← hR.1]; exact Nat.le_succ_of_le hS.1, fun x h1 h2 => (o1 x (by rw [← hR.1]; exact Nat.lt_of_lt_of_le h1 hS.1)).trans (hS.2.1 x h1 h2), hS.2.2⟩
  rw [e1]
  congr 2
  funext j
  rw [hdef]
  match t, ht with
  | 0, _ => simp [tV, ek, zr]
  | 1, _ => simp [tV, ek, zr]
  | 2, _ => simp [tV, ek, zr]
  | 3, _ => simp [tV, ek, zr]
theorem i_anew (X : Ok Γ sp cc own nL ret lev v zf Kf hf) (O : Oi Γ M N) (Q : AOg Γ) {t n idx : Nat} {x : Int32} {C : String} (d : decode cc pc = .ok (.anewarray idx, 3)) (hty : ty_l[t]? = some (.object C)) (hek : ek t = 2) (hcl : Cond.classLink own idx C ∈ lw_g) (hx0 : ¬ x < 0) (hxn : x.toNatClampNeg = n) (hbt : n * 4 ≤ 536870912) (hcells : cs.1 + 1 ≤ M) (hslots : cs.2 + n ≤ N) (kk : Go Γ (cs.1 + 1, cs.2 + n) (pc + 3) lv (.ref sz :: st) (sz + 1) (kS K sz (.inr (t, n))) (zr h sz)) : Go Γ cs pc lv (.int x :: st) sz K h := by
  obtain ⟨⟨p, l, e, R, s, m, args, below, meth, c⟩, D, cA, A, sp0, nL0, mc, ms, v0, zf0, Kf0, hf0⟩ := Γ
  obtain ⟨hx, hb, -, -, -, hown, hts, -, hE, ⟨-, -, rfl, rfl⟩, -⟩ := X
  obtain ⟨-, hA, rfl, rfl⟩ := O
  intro H locs ls hl hR hS
  subst hxn
  refine W.anew hx hb hown (hts _ hcl) (va_AO.use (Q t C hty)) rfl d rfl hx0 hbt hcells hslots fun cA2 kA comp f1 f2 f3 f4 => ?_
  obtain ⟨kA0, comp0, g1, g2, g3, g4⟩ := (hE.1.2 t _ hty).2
  have hcA : cA2 = cA t := Option.some.inj (f1.symm.trans g4)
  subst hcA
  generalize hH1 : H.push ({ cls := cA t, slots := Array.replicate x.toNatClampNeg .null, vm := .none } : Cell) = H1
  have z1 : H1.size = sz + 1 := by rw [← hH1, Array.size_push, hR.1]
  have e1 : H1[sz]? = some (arrV (cA t) x.toNatClampNeg (fun _ => .null)) := by rw [← hH1, ← hR.1, Array.getElem?_push_size, ← arrV_new]
  have o1 : ∀ q : Nat, q < sz → H1[q]? = H[q]? := fun q hq => by rw [← hH1, Array.getElem?_push, if_neg (by rw [hR.1]; exact Nat.ne_of_lt hq)]
  rw [hR.1]
  refine kk H1 locs ls hl (hR.push z1 o1 (hA _ (by rw [← hR.1]; exact hS.1)) ⟨?_, fun ht => by subst ht; cases hek⟩) ⟨by rw [z1, ← hR.1]; exact Nat.le_succ_of_le hS.1, fun x h1 h2 => (o1 x (by rw [← hR.1]; exact Nat.lt_of_lt_of_le h1 hS.1)).trans (hS.2.1 x h1 h2), hS.2.2⟩
  rw [e1]
  congr 2
  funext j
  rw [hek]
  simp [tV, zr, va_rf]
theorem i_putF (X : Ok Γ sp cc own nL ret lev v zf Kf hf) (O : Oi Γ M N) {a ci k idx : Nat} {x : Value} {h' : Hp} {ty : FieldType} (d : decode cc pc = .ok (.putfield idx, 3)) (F : FLk own idx ci k) (P : FPk ci k ty true) (hcls : ∀ (C : String) (T : u_T) (n : Nat), cls_l[ci]? = some (C, T, n) → C = own) (hn : narrow ty x = x) (hfit : fits ty x = true) (hk : K a = some (.inl ci)) (hw : Wr (fc ci k) h a k x h') (kk : Go Γ cs (pc + 3) lv st sz K h') : Go Γ cs pc lv (x :: .ref a :: st) sz K h := by
  obtain ⟨⟨p, l, e, R, s, m, args, below, meth, c⟩, D, cA, A, sp0, nL0, mc, ms, v0, zf0, Kf0, hf0⟩ := Γ
  obtain ⟨hx, hb, -, -, -, hown, hts, -, hE, -⟩ := X
  obtain ⟨hin2, -⟩ := O
  intro H locs ls hl hR hS
  obtain ⟨C, T, n, ⟨hc, hin, hsame, ⟨ty0, hty⟩, hnm⟩, hkN, F⟩ := F
  obtain rfl := hcls _ _ _ hc
  obtain ⟨hAa, r, h1, cell, q1, q2, q3, q4⟩ := hR.2 a _ hk
  have hr : r = (C, T, n) := Option.some.inj (h1.symm.trans hc)
  subst hr
  have hK : va_K D cls_l [] s := ⟨hE.1.1, fun k q h => by simp at h⟩
  have hap := va_apart (own := C) hts hin ty0 hty hnm hK hc
  obtain ⟨hSl, hfc, kC, hkC, hkind⟩ := hE.1.1 ci _ hc
  obtain ⟨cf, kf, fi, f, hi, hsl⟩ := hSl k hkN
  obtain ⟨hfin, hd⟩ := P _ _ _ hc
  have hlay := hts _ (hin _ (u_in_lay hkN))
  unfold u_lay at hlay
  rw [if_pos hfin] at hlay
  have hst := (u_facts hfc hkC (u_lays hts hin hkN) hi).1
  have hcf : m.cls = cf := by
    obtain ⟨_, _, c', _, _, _, -, -, hf', -, -, -, hown2, -⟩ := Cond.laysFinal_spec hlay
    have e1 : c' = cf := by have := hi.symm.trans hf'; simp at this; exact this.1.symm
    rw [hsame k hkN] at hown2
    rw [← e1]; exact Option.some.inj (hown.symm.trans hown2)
  have h6 := u_fits hfc hkC hkind (Or.inr hlay) hi hd hn hfit
  rw [hsame k hkN] at hi
  have fin : ∀ H' : Heap, H'[a]? = some (cell.setSlot f.slot x) → H'.size = H.size → (∀ q, q ≠ a → H'[q]? = H[q]?) → W p l e R s m args below meth c H' (locs ++ [⟨a, f.slot⟩]) cs.1 cs.2 (MQ below (QC D cA A v0 zf0 Kf0 hf0) args s mc ms A) (F0 m (pc + 3) ls st) := by
    intro H' e1 e2 e3
    rw [hsl] at e1
    refine kk H' _ ls hl (hR.one e2 e3 hw.2.2 ?_) (hS.put e2 e3 hAa)
    intro kd hkd
    obtain rfl : kd = .inl ci := Option.some.inj (hkd.symm.trans hk)
    refine ⟨_, hc, t_OB.to (V := updV (fun j => tV (fc ci j) h a j) k x) ⟨_, e1, q2, q3, t_set q4 hap hkN x⟩ (fun j _ => ?_)⟩
    by_cases hj : j = k
    · subst hj; simp only [updV, if_true]; exact hw.1.symm
    · simp only [updV, if_neg hj]; exact (hw.2.1 _ _ hj).symm
  rcases F with F | ⟨host, F⟩
  · exact W.putFinK hx hb hown (hts _ F) hi hst hcf hin2 (by rw [q2]; exact h6) q1 q3 (by rw [hsl]; exact k2_hasslot (q4 k hkN)) rfl rfl d fin
  · refine va_Wputf hx hb hown (va_Nw.use rfl (hE.2.1 _ F rfl)) hi hst (Or.inr ⟨hcf, hin2⟩) q1 (by rw [q3]; exact fun h => by cases h) (by rw [hsl]; exact k2_hasslot (q4 k hkN)) h6.1 (by rw [q2, q3]; exact h6.2) rfl rfl d ?_
    have ha : a < H.size := (Array.getElem?_eq_some_iff.mp q1).1
    exact fin _ (by simp [Array.getElem?_setIfInBounds, ha]) (by simp) (fun q hq => by simp [Array.getElem?_setIfInBounds, Ne.symm hq])
theorem i_obj (X : Ok Γ sp cc own nL ret lev v zf Kf hf) {idx a : Nat} (d : decode cc pc = .ok (.invokespecial idx, 3)) (hl0 : Cond.methodLink own idx Lib.objectInit ∈ lw_g) (h1 : Cond.instanceMethod Lib.objectInit ∈ lw_g) (h2 : Cond.code Lib.objectInit ⟨#[0xb1]⟩ 1 none ∈ lw_g) (hlev : 1 ≤ lev) (hst : (st.map fun v => v.category).sum ≤ 8) (kk : Go Γ cs (pc + 3) lv st sz K h) : Go Γ cs pc lv (.ref a :: st) sz K h := by
  obtain ⟨⟨p, l, e, R, s, m, args, below, meth, c⟩, D, cA, A, sp0, nL0, mc, ms, v0, zf0, Kf0, hf0⟩ := Γ
  obtain ⟨hx, hb, hml, rfl, -, hown, hts, -, hE, ⟨hR1, hR2, -, -⟩, -⟩ := X
  intro H locs ls hl hR hS
  exact W.objInit hx hb hown (hts _ hl0) (hts _ h1) (hts _ h2) rfl (by show ls.size = _; rw [hml]; exact hl.1) rfl d (by omega) (by show 2 * 0 + _ + 12 ≤ _; omega) (kk H locs ls hl hR hS)
theorem i_call (X : Ok Γ sp cc own nL ret lev v zf Kf hf) (O : Oi Γ M N) (Q : AOg Γ) {o idx n2 lev2 mc2 ms2 z2 : Nat} {K2 : Ly} {h2 : Hp} {y : MethodName} {b : ByteArray} (d : decode cc pc = .ok (.invokespecial idx, 3)) (L : MLk 2 own idx y b n2 none 0) (hlev : lev2 < lev) (hst : (st.map fun v => v.category).sum ≤ 8) (hcells : cs.1 + mc2 ≤ M) (hslots : cs.2 + ms2 ≤ N) (hM : ConI sp y b n2 lev2 mc2 ms2 o sz K h z2 K2 h2) (kk : Go Γ (cs.1 + mc2, cs.2 + ms2) (pc + 3) lv st z2 K2 h2) : Go Γ cs pc lv (.ref o :: st) sz K h := by
  obtain ⟨⟨p, l, e, R, s, m, args, below, meth, c⟩, D, cA, A, sp0, nL0, mc, ms, v0, zf0, Kf0, hf0⟩ := Γ
  obtain ⟨hx, hb, hml, rfl, -, hown, hts, -, hE, ⟨hR1, hR2, rfl, rfl⟩, -, -, -, -, rfl⟩ := X
  obtain ⟨-, hA, rfl, rfl⟩ := O
  intro H locs ls hl hR hS
  obtain ⟨hcode, hini, hlink, hd, hn21, hy1, hin⟩ := L
  have hpre : PreS s H (fun args U => args = ([.ref o] : List Value).toArray ∧ AO U ∧ KE D cA A sp0 U U.heap ∧ REL D cA A sz K h U.heap) [.ref o] := ⟨fun _ U g mk q => ⟨q.1, AO.moved (u := U) (Vm.Alike.refl U.vm) q.2.1, KE.same (u := U) rfl q.2.2.1, q.2.2.2⟩, fun U hU hW => ⟨rfl, AO.moved hW.alike Q, by rw [hU]; exact hE.warm hW hS.2.1, by rw [hU]; exact hR⟩⟩
  have hRm : (rmL lev2 mc2 ms2).frames + 1 ≤ R.frames ∧ 8 + (n2 + 11) + (rmL lev2 mc2 ms2).locals ≤ R.locals := ⟨Nat.le_trans hlev hR1, Nat.le_trans (by show 8 + (n2 + 11) + 40 * lev2 ≤ 40 * lev; omega) hR2⟩
  have hM2 := hM l D cA A (fun q hq => hA q (Nat.le_trans (by rw [← hR.1]; exact hS.1) hq))
  rcases hlink with hlink | ⟨host, hlink⟩
  · exact run_go (va_runI (As := []) (own := own) (n := 0) (Ts := lw_g) ⟨hx, hb, hml, hown, hts⟩ hM2 ⟨callB_of 0 hts (good_ws hcode) rfl rfl rfl (hts _ hini) (hts _ hlink) hd hRm, hy1, hts _ hin⟩ hpre rfl rfl hl.1 rfl (lv_room hst) d ⟨hcells, hslots⟩) hS (fun H1 locs1 hr1 hs1 => kk H1 locs1 ls hl hr1 hs1)
  · exact run_go (va_runIN (As := []) (own := own) (n := 0) (Ts := lw_g) ⟨hx, hb, hml, hown, hts⟩ hM2 ⟨va_cnB 0 hts (good_ws hcode) rfl rfl rfl (hE.2.1 _ hlink rfl) (hts _ hini) hd hRm, hy1, hts _ hin⟩ hpre rfl rfl hl.1 rfl (lv_room hst) d ⟨hcells, hslots⟩) hS (fun H1 locs1 hr1 hs1 => kk H1 locs1 ls hl hr1 hs1)
/-- a raw object is finished -/
theorem i_fin (X : Ok Γ sp cc own nL ret lev v zf Kf hf) {o ci : Nat} {r : vw_C} (hk : K o = some (.inl (ci + 12))) (hc : cls_l[ci]? = some r) (hc2 : cls_l[ci + 12]? = some r) (hall : ∀ j, j < r.2.2 → tV (fc (ci + 12) j) h o j = tV (fc ci j) h o j) (kk : Go Γ cs pc lv st sz (kS K o (.inl ci)) h) : Go Γ cs pc lv st sz K h := by
  obtain ⟨⟨p, l, e, R, s, m, args, below, meth, c⟩, D, cA, A, sp0, nL0, mc, ms, v0, zf0, Kf0, hf0⟩ := Γ
  obtain ⟨hx, hb, -, -, -, hown, hts, -, hE, -⟩ := X
  intro H locs ls hl hR hS
  refine kk H locs ls hl ⟨hR.1, fun b k hkb => ?_⟩ hS
  by_cases hb0 : b = o
  · subst hb0
    rw [kS_eq] at hkb
    cases hkb
    obtain ⟨hAa, r1, h1, cell, q1, q2, q3, q4⟩ := hR.2 b _ hk
    obtain rfl : r1 = r := Option.some.inj (h1.symm.trans hc2)
    obtain ⟨s1, f1, -⟩ := hE.1.1 ci _ hc
    obtain ⟨s2, f2, -⟩ := hE.1.1 (ci + 12) _ hc2
    refine ⟨hAa, _, hc, cell, q1, q2.trans (Option.some.inj (f2.symm.trans f1)), q3, fun j hj => ?_⟩
    obtain ⟨_, _, _, g1, i1, e1⟩ := s1 j hj
    obtain ⟨_, _, _, g2, i2, e2⟩ := s2 j hj
    have hg : g1 = g2 := by have := i1.symm.trans i2; simp at this; exact this.2.2.2
    rw [← e1, hg, e2, q4 j hj]
    exact congrArg some (hall j hj)
  · exact hR.2 b k (by rw [← hkb]; simp [kS, hb0])
theorem i_ret (X : Ok Γ sp cc own nL none lev none sz K h) (O : Oi Γ M N) (d : decode cc pc = .ok (.return_, 1)) (h1 : cs.1 ≤ M) (h2 : cs.2 ≤ N) : Go Γ cs pc lv [] sz K h := by
  obtain ⟨⟨p, l, e, R, s, m, args, below, meth, c⟩, D, cA, A, sp0, nL0, mc, ms, v0, zf0, Kf0, hf0⟩ := Γ
  obtain ⟨hx, hb, -, -, hr, -, -, hlocks, -, -, rfl, rfl, rfl, rfl, -⟩ := X
  obtain ⟨-, -, rfl, rfl⟩ := O
  intro H locs ls hl hR hS
  exact W.widen h1 h2 (W.vret hx hb hr (fun t ht hW => ⟨rfl, by rw [ht]; exact hR, hS.F ht⟩) hS.2.2 d hlocks)
end Init
