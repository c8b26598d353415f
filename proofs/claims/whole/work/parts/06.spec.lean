/-! the forms that the walks use -/
def inb (i : Int32) (n : Nat) : Bool := decide (¬ (i < 0 ∨ n ≤ i.toNatClampNeg))
theorem inb_in {i : Int32} {n : Nat} (h : inb i n = true) : vp_in i n := by simpa [inb, vp_in] using h
def isO (K : Ly) (a ci : Nat) : Bool := decide (K a = some (.inl ci))
theorem isO_of {K : Ly} {a ci : Nat} (h : isO K a ci = true) : K a = some (.inl ci) := by simpa [isO] using h
/-- go on where it is so -/
def gd {α : Type} (c : Bool) (o : Option α) : Option α := match c with
  | true => o
  | false => none
theorem gd_E {α : Type} {c : Bool} {o : Option α} {r : α} (h : gd c o = some r) : c = true ∧ o = some r := by
  cases c with
  | true => exact ⟨rfl, h⟩
  | false => cases h
/-- a name for a value -/
def lt {α β : Type} (x : α) (k : α → β) : β := k x
theorem lt_E {α β : Type} {x : α} {k : α → β} {r : β} (h : lt x k = r) : ∃ y, x = y ∧ k y = r := ⟨x, rfl, h⟩
/-- what a method without effect answers -/
def bp {α β : Type} (o : Option α) (k : α → Option β) : Option β := match o with
  | some x => k x
  | none => none
theorem bp_E {α β : Type} {o : Option α} {k : α → Option β} {r : β} (h : bp o k = some r) : ∃ x, o = some x ∧ k x = some r := by
  cases o with
  | some x => exact ⟨x, rfl, h⟩
  | none => cases h
/-- an answer and a heap -/
def bd {α β : Type} (o : Option (α × Hp)) (k : α → Hp → Option β) : Option β := match o with
  | some (x, h) => k x h
  | none => none
theorem bd_E {α β : Type} {o : Option (α × Hp)} {k : α → Hp → Option β} {r : β} (h : bd o k = some r) : ∃ x g, o = some (x, g) ∧ k x g = some r := by
  match o, h with
  | some (x, g), h => exact ⟨x, g, rfl, h⟩
/-- a reference to an object -/
def ob {β : Type} (r : Option Nat) (K : Ly) (ci : Nat) (k : Nat → Option β) : Option β := match r with
  | some e => gd (isO K e ci) (k e)
  | none => none
theorem ob_E {β : Type} {r : Option Nat} {K : Ly} {ci : Nat} {k : Nat → Option β} {x : β} (h : ob r K ci k = some x) : ∃ e, r = some e ∧ K e = some (.inl ci) ∧ k e = some x := by
  cases r with
  | some e =>
    obtain ⟨h1, h2⟩ := gd_E h
    exact ⟨e, rfl, isO_of h1, h2⟩
  | none => cases h
/-- a reference to an array -/
def oa {β : Type} (r : Option Nat) (K : Ly) (t : Nat) (k : Nat → Nat → Option β) : Option β := match r with
  | some e => match K e with
    | some (.inr (t', n)) => gd (decide (t' = t)) (k e n)
    | _ => none
  | none => none
theorem oa_E {β : Type} {r : Option Nat} {K : Ly} {t : Nat} {k : Nat → Nat → Option β} {x : β} (h : oa r K t k = some x) : ∃ e n, r = some e ∧ K e = some (.inr (t, n)) ∧ k e n = some x := by
  cases r with
  | some e =>
    unfold oa at h
    dsimp only at h
    split at h
    · rename_i t' n hk
      obtain ⟨h1, h2⟩ := gd_E h
      have h1 : t' = t := by simpa using h1
      subst h1
      exact ⟨e, n, rfl, hk, h2⟩
    · cases h
  | none => cases h
/-- null or not -/
def nl {β : Type} (r : Option Nat) (a : β) (k : Nat → β) : β := match r with
  | none => a
  | some e => k e
theorem nl_E {β : Type} {r : Option Nat} {a : β} {k : Nat → β} {x : β} (h : nl r a k = x) : (r = none ∧ a = x) ∨ ∃ e, r = some e ∧ k e = x := by
  cases r with
  | none => exact Or.inl ⟨rfl, h⟩
  | some e => exact Or.inr ⟨e, rfl, h⟩
theorem it_E {α : Type} {c : Prop} [Decidable c] {a b x : α} (h : (if c then a else b) = x) : (c ∧ a = x) ∨ (¬ c ∧ b = x) := by
  by_cases hc : c
  · rw [if_pos hc] at h; exact Or.inl ⟨hc, h⟩
  · rw [if_neg hc] at h; exact Or.inr ⟨hc, h⟩
/-- two ways that meet, with a value each -/
theorem dia {α : Type} {c : Prop} [Decidable c] {a b : α} {G : Prop} (P : α → Prop) (r : P (if c then a else b)) (ht : c → P a → G) (hf : ¬ c → P b → G) : G := by
  by_cases hc : c
  · rw [if_pos hc] at r; exact ht hc r
  · rw [if_neg hc] at r; exact hf hc r
theorem b1 {c : Prop} [Decidable c] (h : c) : ¬ (if c then (1 : Int32) else 0) = 0 := by rw [if_pos h]; decide
theorem b0 {c : Prop} [Decidable c] (h : ¬ c) : (if c then (1 : Int32) else 0) = 0 := by rw [if_neg h]
theorem bz {c : Prop} [Decidable c] : narrow .boolean (.int (if c then (1 : Int32) else 0)) = .int (if c then (1 : Int32) else 0) := by
  by_cases h : c
  · rw [if_pos h]; rfl
  · rw [if_neg h]; rfl
def isB (z : Int32) : Bool := decide (z = 0 ∨ z = 1)
theorem isB_n {z : Int32} (h : isB z = true) : narrow .boolean (.int z) = .int z := by
  have h : z = 0 ∨ z = 1 := by simpa [isB] using h
  rcases h with rfl | rfl <;> rfl
theorem n1 {c : Prop} [Decidable c] (h : ¬ c) : ¬ (if c then (0 : Int32) else 1) = 0 := by rw [if_neg h]; decide
theorem n0 {c : Prop} [Decidable c] (h : c) : (if c then (0 : Int32) else 1) = 0 := by rw [if_pos h]
theorem rt_E {α : Type} {x v : α} {h g : Hp} (e : some (x, h) = some (v, g)) : x = v ∧ h = g := by cases e; exact ⟨rfl, rfl⟩
theorem sw_out {x : Int32} (lo : Int) (n : Nat) (hl : -2147483648 ≤ lo) (hh : lo + n ≤ 2147483647) (h : ∀ j : Nat, j ≤ n → ¬ x = Int32.ofInt (lo + j)) : x.toInt < lo ∨ lo + n < x.toInt := by
  by_cases h1 : x.toInt < lo
  · exact Or.inl h1
  · by_cases h2 : lo + n < x.toInt
    · exact Or.inr h2
    · exfalso
      refine h (x.toInt - lo).toNat (by omega) ?_
      have e : lo + ((x.toInt - lo).toNat : Int) = x.toInt := by omega
      rw [e, Int32.ofInt_toInt]
/-- the listed locals behind a store -/
def LSt (lv : List (Nat × Value)) (i : Nat) (x : Value) (lv2 : List (Nat × Value)) : Prop := ∀ q ∈ lv2, q = (i, x) ∨ (q ∈ lv ∧ q.1 ≠ i ∧ (q.1 + 1 ≠ i ∨ q.2.category = 1))
theorem ls_all {lv : List (Nat × Value)} {i : Nat} (h : ∀ q ∈ lv, q.1 ≠ i ∧ (q.1 + 1 ≠ i ∨ q.2.category = 1)) : ∀ q ∈ lv, q ∈ lv ∧ q.1 ≠ i ∧ (q.1 + 1 ≠ i ∨ q.2.category = 1) := fun q hq => ⟨hq, h q hq⟩
theorem ls_nil {i : Nat} {x : Value} : LSt [] i x [(i, x)] := fun q hq => Or.inl (List.mem_singleton.mp hq)
theorem ls_end {i : Nat} {x : Value} : LSt [] i x [] := fun q hq => by cases hq
theorem ls_here {lv lv2 : List (Nat × Value)} {i : Nat} {x w : Value} (h : LSt lv i x lv2) : LSt ((i, w) :: lv) i x ((i, x) :: lv2) := fun q hq => by
  rcases List.mem_cons.mp hq with rfl | hq
  · exact Or.inl rfl
  · rcases h q hq with h | ⟨h1, h2⟩
    · exact Or.inl h
    · exact Or.inr ⟨List.mem_cons_of_mem _ h1, h2⟩
theorem ls_ins {lv lv2 : List (Nat × Value)} {i : Nat} {x : Value} (h : LSt lv i x lv2) : LSt lv i x ((i, x) :: lv2) := fun q hq => by
  rcases List.mem_cons.mp hq with rfl | hq
  · exact Or.inl rfl
  · exact h q hq
theorem ls_next {lv lv2 : List (Nat × Value)} {i j : Nat} {x w : Value} (h1 : j ≠ i) (h2 : j + 1 ≠ i ∨ w.category = 1) (h : LSt lv i x lv2) : LSt ((j, w) :: lv) i x ((j, w) :: lv2) := fun q hq => by
  rcases List.mem_cons.mp hq with rfl | hq
  · exact Or.inr ⟨List.mem_cons_self, h1, h2⟩
  · rcases h q hq with h | ⟨h3, h4⟩
    · exact Or.inl h
    · exact Or.inr ⟨List.mem_cons_of_mem _ h3, h4⟩
theorem ls_drop {lv lv2 : List (Nat × Value)} {i : Nat} {x : Value} {a : Nat × Value} (h : LSt lv i x lv2) : LSt (a :: lv) i x lv2 := fun q hq => by
  rcases h q hq with h | ⟨h3, h4⟩
  · exact Or.inl h
  · exact Or.inr ⟨List.mem_cons_of_mem _ h3, h4⟩
theorem cat_rf (x : Option Nat) : (va_rf x).category = 1 := by cases x <;> rfl
theorem LSt.has {lv lv2 : List (Nat × Value)} {i nL : Nat} {x : Value} {ls : Array Slot} (h : LSt lv i x lv2) (h1 : lv_has ls nL ((i, x) :: lv.filter (fun q => !(q.1 == i) && !(q.1 + 1 == i && q.2.category == 2)))) : lv_has ls nL lv2 := by
  refine ⟨h1.1, h1.2.1, fun q hq => ?_⟩
  rcases h q hq with h | ⟨h2, h3, h4⟩
  · subst h; exact h1.2.2 _ List.mem_cons_self
  · refine h1.2.2 q (List.mem_cons_of_mem _ (List.mem_filter.mpr ⟨h2, ?_⟩))
    rcases h4 with h4 | h4 <;> simp [h3, h4]
theorem LSt.has2 {lv lv2 : List (Nat × Value)} {i nL : Nat} {x : Value} {ls : Array Slot} (h : LSt lv i x lv2) (h0 : ∀ q ∈ lv2, q.1 ≠ i + 1) (h1 : lv_has ls nL ((i, x) :: lv.filter (fun q => !(q.1 == i) && (!(q.1 == i + 1) && !(q.1 + 1 == i && q.2.category == 2))))) : lv_has ls nL lv2 := by
  refine ⟨h1.1, h1.2.1, fun q hq => ?_⟩
  have h5 := h0 q hq
  rcases h q hq with h | ⟨h2, h3, h4⟩
  · subst h; exact h1.2.2 _ List.mem_cons_self
  · refine h1.2.2 q (List.mem_cons_of_mem _ (List.mem_filter.mpr ⟨h2, ?_⟩))
    rcases h4 with h4 | h4 <;> simp [h3, h4, h5]
def FLc (own : String) (idx ci k c : Nat) : Prop := FLk own idx ci k ∧ fc ci k = c
def FPc (own : String) (idx ci k c : Nat) (ty : FieldType) : Prop := FLk own idx ci k ∧ FPk ci k ty false ∧ fc ci k = c
theorem ly {K : Ly} (hK : LyOk K) {a ci : Nat} (hk : K a = some (.inl ci)) {own : String} {idx k c : Nat} {kd : Kd} (F : FLc own idx ci k (c + 3)) (hs : sk ci k = some kd) : K (a + c) = some kd := hK a ci k c kd hk F.2 hs
section Spec
variable {Γ : CT} {sp : Sp} {cc : ByteArray} {own : String} {nL : Nat} {ret : Option FieldType} {lev : Nat} {v : Option Value} {zf : Nat} {Kf : Ly} {hf : Hp} {cs : Nat × Nat} {pc : Nat} {lv : List (Nat × Value)} {st : List Value} {sz : Nat} {K : Ly} {h : Hp}
theorem g_sub {lv2 : List (Nat × Value)} (ks : List Nat) (hl2 : lv_pick lv ks = lv2) (k : Go Γ cs pc lv2 st sz K h) : Go Γ cs pc lv st sz K h := by
  obtain ⟨⟨p, l, e, R, s, m, args, below, meth, c⟩, D, cA, A, sp0, nL0, mc, ms, v0, zf0, Kf0, hf0⟩ := Γ
  exact fun H locs ls hl hR hS => k H locs ls (lv_sub hl ks hl2) hR hS
theorem g_getI (X : Ok Γ sp cc own nL ret lev v zf Kf hf) {a ci k idx : Nat} (d : decode cc pc = .ok (.getfield idx, 3)) (F : FLc own idx ci k 0) (hk : K a = some (.inl ci)) (kk : Go Γ cs (pc + 3) lv (.int (h.1 a k) :: st) sz K h) : Go Γ cs pc lv (.ref a :: st) sz K h := g_getf X d F.1 hk (by rw [F.2]; rfl) kk
theorem g_getL (X : Ok Γ sp cc own nL ret lev v zf Kf hf) {a ci k idx : Nat} (d : decode cc pc = .ok (.getfield idx, 3)) (F : FLc own idx ci k 1) (hk : K a = some (.inl ci)) (kk : Go Γ cs (pc + 3) lv (.long (h.2.1 a k) :: st) sz K h) : Go Γ cs pc lv (.ref a :: st) sz K h := g_getf X d F.1 hk (by rw [F.2]; rfl) kk
theorem g_getR (X : Ok Γ sp cc own nL ret lev v zf Kf hf) {a ci k idx e : Nat} (d : decode cc pc = .ok (.getfield idx, 3)) (F : FLc own idx ci k 2) (hk : K a = some (.inl ci)) (hr : h.2.2 a k = some e) (kk : Go Γ cs (pc + 3) lv (.ref e :: st) sz K h) : Go Γ cs pc lv (.ref a :: st) sz K h := g_getf X d F.1 hk (by rw [F.2]; show va_rf (h.2.2 a k) = _; rw [hr]; rfl) kk
theorem g_getS (X : Ok Γ sp cc own nL ret lev v zf Kf hf) {a ci k idx off : Nat} (d : decode cc pc = .ok (.getfield idx, 3)) (F : FLc own idx ci k (off + 3)) (hk : K a = some (.inl ci)) (kk : Go Γ cs (pc + 3) lv (.ref (a + off) :: st) sz K h) : Go Γ cs pc lv (.ref a :: st) sz K h := g_getf X d F.1 hk (by rw [F.2]; rfl) kk
theorem g_putI (X : Ok Γ sp cc own nL ret lev v zf Kf hf) {a ci k idx : Nat} {x : Int32} (d : decode cc pc = .ok (.putfield idx, 3)) (F : FPc own idx ci k 0 .int) (hk : K a = some (.inl ci)) {h1 : Hp} (eh : sI h a k x = h1) (kk : Go Γ cs (pc + 3) lv st sz K h1) : Go Γ cs pc lv (.int x :: .ref a :: st) sz K h := g_putf X d F.1 F.2.1 rfl rfl hk (by rw [F.2.2]; exact Wr.i) (eh ▸ kk)
theorem g_putZ (X : Ok Γ sp cc own nL ret lev v zf Kf hf) {a ci k idx : Nat} {x : Int32} (d : decode cc pc = .ok (.putfield idx, 3)) (F : FPc own idx ci k 0 .boolean) (hn : narrow .boolean (.int x) = .int x) (hfit : fits .boolean (.int x) = true) (hk : K a = some (.inl ci)) {h1 : Hp} (eh : sI h a k x = h1) (kk : Go Γ cs (pc + 3) lv st sz K h1) : Go Γ cs pc lv (.int x :: .ref a :: st) sz K h := g_putf X d F.1 F.2.1 hn hfit hk (by rw [F.2.2]; exact Wr.i) (eh ▸ kk)
theorem g_putL (X : Ok Γ sp cc own nL ret lev v zf Kf hf) {a ci k idx : Nat} {x : Int64} (d : decode cc pc = .ok (.putfield idx, 3)) (F : FPc own idx ci k 1 .long) (hk : K a = some (.inl ci)) {h1 : Hp} (eh : sL h a k x = h1) (kk : Go Γ cs (pc + 3) lv st sz K h1) : Go Γ cs pc lv (.long x :: .ref a :: st) sz K h := g_putf X d F.1 F.2.1 rfl rfl hk (by rw [F.2.2]; exact Wr.l) (eh ▸ kk)
theorem g_putR (X : Ok Γ sp cc own nL ret lev v zf Kf hf) {a ci k idx b : Nat} {ty : FieldType} (d : decode cc pc = .ok (.putfield idx, 3)) (F : FPc own idx ci k 2 ty) (hn : narrow ty (.ref b) = .ref b) (hfit : fits ty (.ref b) = true) (hk : K a = some (.inl ci)) {h1 : Hp} (eh : sR h a k (some b) = h1) (kk : Go Γ cs (pc + 3) lv st sz K h1) : Go Γ cs pc lv (.ref b :: .ref a :: st) sz K h := g_putf X d F.1 F.2.1 hn hfit hk (by rw [F.2.2]; exact Wr.r (x := some b)) (eh ▸ kk)
theorem g_iald (X : Ok Γ sp cc own nL ret lev v zf Kf hf) {a n : Nat} {i : Int32} (d : decode cc pc = .ok (.iaload, 1)) (hk : K a = some (.inr (0, n))) (hi : inb i n = true) (kk : Go Γ cs (pc + 1) lv (.int (h.1 a i.toNatClampNeg) :: st) sz K h) : Go Γ cs pc lv (.int i :: .ref a :: st) sz K h := g_ald X (Or.inl ⟨d, rfl⟩) hk (inb_in hi) rfl kk
theorem g_bald (X : Ok Γ sp cc own nL ret lev v zf Kf hf) {a n : Nat} {i : Int32} (d : decode cc pc = .ok (.baload, 1)) (hk : K a = some (.inr (1, n))) (hi : inb i n = true) (kk : Go Γ cs (pc + 1) lv (.int (h.1 a i.toNatClampNeg) :: st) sz K h) : Go Γ cs pc lv (.int i :: .ref a :: st) sz K h := g_ald X (Or.inr (Or.inl ⟨d, rfl⟩)) hk (inb_in hi) rfl kk
theorem g_zald (X : Ok Γ sp cc own nL ret lev v zf Kf hf) {a n : Nat} {i : Int32} (d : decode cc pc = .ok (.baload, 1)) (hk : K a = some (.inr (2, n))) (hi : inb i n = true) (kk : Go Γ cs (pc + 1) lv (.int (h.1 a i.toNatClampNeg) :: st) sz K h) : Go Γ cs pc lv (.int i :: .ref a :: st) sz K h := g_ald X (Or.inr (Or.inr (Or.inl ⟨d, rfl⟩))) hk (inb_in hi) rfl kk
theorem g_lald (X : Ok Γ sp cc own nL ret lev v zf Kf hf) {a n : Nat} {i : Int32} (d : decode cc pc = .ok (.laload, 1)) (hk : K a = some (.inr (3, n))) (hi : inb i n = true) (kk : Go Γ cs (pc + 1) lv (.long (h.2.1 a i.toNatClampNeg) :: st) sz K h) : Go Γ cs pc lv (.int i :: .ref a :: st) sz K h := g_ald X (Or.inr (Or.inr (Or.inr (Or.inl ⟨d, rfl⟩)))) hk (inb_in hi) rfl kk
theorem g_aald (X : Ok Γ sp cc own nL ret lev v zf Kf hf) {a t n e : Nat} {i : Int32} {C : String} (d : decode cc pc = .ok (.aaload, 1)) (hk : K a = some (.inr (t, n))) (ht : ty_l[t]? = some (.object C)) (hek : ek t = 2) (hi : inb i n = true) (hr : h.2.2 a i.toNatClampNeg = some e) (kk : Go Γ cs (pc + 1) lv (.ref e :: st) sz K h) : Go Γ cs pc lv (.int i :: .ref a :: st) sz K h := g_ald X (Or.inr (Or.inr (Or.inr (Or.inr ⟨d, C, ht⟩)))) hk (inb_in hi) (by rw [hek]; show va_rf (h.2.2 a _) = _; rw [hr]; rfl) kk
theorem g_iast (X : Ok Γ sp cc own nL ret lev v zf Kf hf) {a n : Nat} {i x : Int32} (d : decode cc pc = .ok (.iastore, 1)) (hk : K a = some (.inr (0, n))) (hi : inb i n = true) {h1 : Hp} (eh : sI h a i.toNatClampNeg x = h1) (kk : Go Γ cs (pc + 1) lv st sz K h1) : Go Γ cs pc lv (.int x :: .int i :: .ref a :: st) sz K h := g_ast X (Or.inl ⟨d, rfl, ⟨x, rfl⟩, rfl⟩) hk (inb_in hi) Wr.i (eh ▸ kk)
theorem g_bast (X : Ok Γ sp cc own nL ret lev v zf Kf hf) {a n : Nat} {i x : Int32} (d : decode cc pc = .ok (.bastore, 1)) (hk : K a = some (.inr (1, n))) (hi : inb i n = true) {h1 : Hp} (eh : sI h a i.toNatClampNeg x.toInt8.toInt32 = h1) (kk : Go Γ cs (pc + 1) lv st sz K h1) : Go Γ cs pc lv (.int x :: .int i :: .ref a :: st) sz K h := g_ast X (Or.inr (Or.inl ⟨d, rfl, ⟨x, rfl⟩, rfl⟩)) hk (inb_in hi) Wr.i (eh ▸ kk)
theorem g_zast1 (X : Ok Γ sp cc own nL ret lev v zf Kf hf) {a n : Nat} {i : Int32} (d : decode cc pc = .ok (.bastore, 1)) (hk : K a = some (.inr (2, n))) (hi : inb i n = true) {h1 : Hp} (eh : sI h a i.toNatClampNeg 1 = h1) (kk : Go Γ cs (pc + 1) lv st sz K h1) : Go Γ cs pc lv (.int 1 :: .int i :: .ref a :: st) sz K h := g_ast X (Or.inr (Or.inr (Or.inl ⟨d, rfl, ⟨1, rfl⟩, rfl⟩))) hk (inb_in hi) Wr.i (eh ▸ kk)
theorem g_last (X : Ok Γ sp cc own nL ret lev v zf Kf hf) {a n : Nat} {i : Int32} {x : Int64} (d : decode cc pc = .ok (.lastore, 1)) (hk : K a = some (.inr (3, n))) (hi : inb i n = true) {h1 : Hp} (eh : sL h a i.toNatClampNeg x = h1) (kk : Go Γ cs (pc + 1) lv st sz K h1) : Go Γ cs pc lv (.long x :: .int i :: .ref a :: st) sz K h := g_ast X (Or.inr (Or.inr (Or.inr ⟨d, rfl, ⟨x, rfl⟩, rfl⟩))) hk (inb_in hi) Wr.l (eh ▸ kk)
theorem g_rast (X : Ok Γ sp cc own nL ret lev v zf Kf hf) {a b ci t n : Nat} {i : Int32} {r : vw_C} (d : decode cc pc = .ok (.aastore, 1)) (hk : K a = some (.inr (t, n))) (ht : ty_l[t]? = some (.object r.1)) (hc : cls_l[ci]? = some r) (hek : ek t = 2) (hb0 : K b = some (.inl ci)) (hi : inb i n = true) {h1 : Hp} (eh : sR h a i.toNatClampNeg (some b) = h1) (kk : Go Γ cs (pc + 1) lv st sz K h1) : Go Γ cs pc lv (.ref b :: .int i :: .ref a :: st) sz K h := g_aast X d hk ht hc hek hb0 (inb_in hi) (eh ▸ kk)
theorem s_istore_n (X : Ok Γ sp cc own nL ret lev v zf Kf hf) {n : Fin 4} {i : Nat} {x y : Int32} {lv2 : List (Nat × Value)} (d : decode cc pc = .ok (.istore_n n, 1)) (hi : (n : Nat) = i) (hn : i < nL) (ey : x = y) (hl2 : LSt lv i (.int y) lv2)  (k : Go Γ cs (pc + 1) lv2 st sz K h) : Go Γ cs pc lv (.int x :: st) sz K h := by
  subst ey
  obtain ⟨⟨p, l, e, R, s, m, args, below, meth, c⟩, D, cA, A, sp0, nL0, mc, ms, v0, zf0, Kf0, hf0⟩ := Γ
  obtain ⟨hx, hb, -, hn0, -⟩ := X
  subst hn0
  intro H locs ls hl hR hS
  exact lv_istore_n hx hb d hi hl hn rfl (fun ls2 hls => k H locs ls2 (hl2.has hls) hR hS)
theorem s_istore (X : Ok Γ sp cc own nL ret lev v zf Kf hf)  {i : Nat} {x y : Int32} {lv2 : List (Nat × Value)} (d : decode cc pc = .ok (.istore i, 2))  (hn : i < nL) (ey : x = y) (hl2 : LSt lv i (.int y) lv2)  (k : Go Γ cs (pc + 2) lv2 st sz K h) : Go Γ cs pc lv (.int x :: st) sz K h := by
  subst ey
  obtain ⟨⟨p, l, e, R, s, m, args, below, meth, c⟩, D, cA, A, sp0, nL0, mc, ms, v0, zf0, Kf0, hf0⟩ := Γ
  obtain ⟨hx, hb, -, hn0, -⟩ := X
  subst hn0
  intro H locs ls hl hR hS
  exact lv_istore hx hb d hl hn rfl (fun ls2 hls => k H locs ls2 (hl2.has hls) hR hS)
theorem s_astore_n (X : Ok Γ sp cc own nL ret lev v zf Kf hf) {n : Fin 4} {i : Nat} {x y : Nat} {lv2 : List (Nat × Value)} (d : decode cc pc = .ok (.astore_n n, 1)) (hi : (n : Nat) = i) (hn : i < nL) (ey : x = y) (hl2 : LSt lv i (.ref y) lv2)  (k : Go Γ cs (pc + 1) lv2 st sz K h) : Go Γ cs pc lv (.ref x :: st) sz K h := by
  subst ey
  obtain ⟨⟨p, l, e, R, s, m, args, below, meth, c⟩, D, cA, A, sp0, nL0, mc, ms, v0, zf0, Kf0, hf0⟩ := Γ
  obtain ⟨hx, hb, -, hn0, -⟩ := X
  subst hn0
  intro H locs ls hl hR hS
  exact lv_astore_n hx hb d hi hl hn rfl (fun ls2 hls => k H locs ls2 (hl2.has hls) hR hS)
theorem s_astore (X : Ok Γ sp cc own nL ret lev v zf Kf hf)  {i : Nat} {x y : Nat} {lv2 : List (Nat × Value)} (d : decode cc pc = .ok (.astore i, 2))  (hn : i < nL) (ey : x = y) (hl2 : LSt lv i (.ref y) lv2)  (k : Go Γ cs (pc + 2) lv2 st sz K h) : Go Γ cs pc lv (.ref x :: st) sz K h := by
  subst ey
  obtain ⟨⟨p, l, e, R, s, m, args, below, meth, c⟩, D, cA, A, sp0, nL0, mc, ms, v0, zf0, Kf0, hf0⟩ := Γ
  obtain ⟨hx, hb, -, hn0, -⟩ := X
  subst hn0
  intro H locs ls hl hR hS
  exact lv_astore hx hb d hl hn rfl (fun ls2 hls => k H locs ls2 (hl2.has hls) hR hS)
theorem s_lstore_n (X : Ok Γ sp cc own nL ret lev v zf Kf hf) {n : Fin 4} {i : Nat} {x y : Int64} {lv2 : List (Nat × Value)} (d : decode cc pc = .ok (.lstore_n n, 1)) (hi : (n : Nat) = i) (hn : i + 1 < nL) (ey : x = y) (hl2 : LSt lv i (.long y) lv2) (h0 : ∀ q ∈ lv2, q.1 ≠ i + 1) (k : Go Γ cs (pc + 1) lv2 st sz K h) : Go Γ cs pc lv (.long x :: st) sz K h := by
  subst ey
  obtain ⟨⟨p, l, e, R, s, m, args, below, meth, c⟩, D, cA, A, sp0, nL0, mc, ms, v0, zf0, Kf0, hf0⟩ := Γ
  obtain ⟨hx, hb, -, hn0, -⟩ := X
  subst hn0
  intro H locs ls hl hR hS
  exact lv_lstore_n hx hb d hi hl hn rfl (fun ls2 hls => k H locs ls2 (hl2.has2 h0 hls) hR hS)
theorem s_lstore (X : Ok Γ sp cc own nL ret lev v zf Kf hf)  {i : Nat} {x y : Int64} {lv2 : List (Nat × Value)} (d : decode cc pc = .ok (.lstore i, 2))  (hn : i + 1 < nL) (ey : x = y) (hl2 : LSt lv i (.long y) lv2) (h0 : ∀ q ∈ lv2, q.1 ≠ i + 1) (k : Go Γ cs (pc + 2) lv2 st sz K h) : Go Γ cs pc lv (.long x :: st) sz K h := by
  subst ey
  obtain ⟨⟨p, l, e, R, s, m, args, below, meth, c⟩, D, cA, A, sp0, nL0, mc, ms, v0, zf0, Kf0, hf0⟩ := Γ
  obtain ⟨hx, hb, -, hn0, -⟩ := X
  subst hn0
  intro H locs ls hl hR hS
  exact lv_lstore hx hb d hl hn rfl (fun ls2 hls => k H locs ls2 (hl2.has2 h0 hls) hR hS)
theorem s_qstore_n (X : Ok Γ sp cc own nL ret lev v zf Kf hf) {n : Fin 4} {i : Nat} {x y : Option Nat} {lv2 : List (Nat × Value)} (d : decode cc pc = .ok (.astore_n n, 1)) (hi : (n : Nat) = i) (hn : i < nL) (ey : x = y) (hl2 : LSt lv i (va_rf y) lv2)  (k : Go Γ cs (pc + 1) lv2 st sz K h) : Go Γ cs pc lv (va_rf x :: st) sz K h := by
  subst ey
  obtain ⟨⟨p, l, e, R, s, m, args, below, meth, c⟩, D, cA, A, sp0, nL0, mc, ms, v0, zf0, Kf0, hf0⟩ := Γ
  obtain ⟨hx, hb, -, hn0, -⟩ := X
  subst hn0
  intro H locs ls hl hR hS
  cases x with
  | none => exact lv_astore_nN hx hb d hi hl hn rfl (fun ls2 hls => k H locs ls2 (hl2.has hls) hR hS)
  | some x => exact lv_astore_n hx hb d hi hl hn rfl (fun ls2 hls => k H locs ls2 (hl2.has hls) hR hS)
theorem s_qstore (X : Ok Γ sp cc own nL ret lev v zf Kf hf)  {i : Nat} {x y : Option Nat} {lv2 : List (Nat × Value)} (d : decode cc pc = .ok (.astore i, 2))  (hn : i < nL) (ey : x = y) (hl2 : LSt lv i (va_rf y) lv2)  (k : Go Γ cs (pc + 2) lv2 st sz K h) : Go Γ cs pc lv (va_rf x :: st) sz K h := by
  subst ey
  obtain ⟨⟨p, l, e, R, s, m, args, below, meth, c⟩, D, cA, A, sp0, nL0, mc, ms, v0, zf0, Kf0, hf0⟩ := Γ
  obtain ⟨hx, hb, -, hn0, -⟩ := X
  subst hn0
  intro H locs ls hl hR hS
  cases x with
  | none => exact lv_astoreN hx hb d hl hn rfl (fun ls2 hls => k H locs ls2 (hl2.has hls) hR hS)
  | some x => exact lv_astore hx hb d hl hn rfl (fun ls2 hls => k H locs ls2 (hl2.has hls) hR hS)
theorem s_iinc (X : Ok Γ sp cc own nL ret lev v zf Kf hf) {i : Nat} {n : Int} {x y : Int32} {lv2 : List (Nat × Value)} (d : decode cc pc = .ok (.iinc i n, 3)) (j : Nat) (hj : lv[j]? = some (i, .int x)) (hn : i < nL) (ey : x + Int32.ofInt n = y) (hl2 : LSt lv i (.int y) lv2) (k : Go Γ cs (pc + 3) lv2 st sz K h) : Go Γ cs pc lv st sz K h := by
  obtain ⟨⟨p, l, e, R, s, m, args, below, meth, c⟩, D, cA, A, sp0, nL0, mc, ms, v0, zf0, Kf0, hf0⟩ := Γ
  obtain ⟨hx, hb, -, hn0, -⟩ := X
  subst hn0
  intro H locs ls hl hR hS
  exact lv_iinc hx hb d hl hj ey hn rfl (fun ls2 hls => k H locs ls2 (hl2.has hls) hR hS)
end Spec
