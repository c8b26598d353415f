def fl1 : List Cond := flatC (Jvm.Cond.and given_1 narrow_1)
theorem sref : ∀ i, i < 24 → Cond.stringRef "AskedNames$Reader" (es_ix.getD i 0) (es_tx.getD i "") ∈ lw_tbl := by
  intro i hi
  match i, hi with
  | 0, _ => exact in_k3 123 rfl
  | 1, _ => exact in_k3 124 rfl
  | 2, _ => exact in_k3 125 rfl
  | 3, _ => exact in_k3 126 rfl
  | 4, _ => exact in_k3 127 rfl
  | 5, _ => exact in_k3 128 rfl
  | 6, _ => exact in_k3 129 rfl
  | 7, _ => exact in_k3 130 rfl
  | 8, _ => exact in_k3 131 rfl
  | 9, _ => exact in_k3 132 rfl
  | 10, _ => exact in_k3 133 rfl
  | 11, _ => exact in_k3 134 rfl
  | 12, _ => exact in_k3 135 rfl
  | 13, _ => exact in_k3 203 rfl
  | 14, _ => exact in_k3 204 rfl
  | 15, _ => exact in_k3 205 rfl
  | 16, _ => exact in_k3 206 rfl
  | 17, _ => exact in_k3 207 rfl
  | 18, _ => exact in_k3 208 rfl
  | 19, _ => exact in_k3 209 rfl
  | 20, _ => exact in_k3 210 rfl
  | 21, _ => exact in_k3 211 rfl
  | 22, _ => exact in_k3 212 rfl
  | 23, _ => exact in_k3 213 rfl
  | n + 24, h => exact absurd h (by omega)
def q_ex : List Nat := [112, 121, 130, 140, 151, 164, 178, 191, 207, 223, 239, 257, 275, 295, 313, 332, 353, 376, 401, 426, 451, 476, 503, 531]
def q_co : List Nat := [113, 122, 131, 141, 152, 165, 179, 192, 208, 224, 240, 258, 276, 296, 314, 333, 354, 377, 402, 427, 452, 477, 504, 532]
def q_ar : List Nat := [114, 123, 132, 142, 153, 166, 180, 193, 209, 225, 241, 259, 277, 297, 315, 334, 355, 378, 403, 428, 453, 478, 505, 533]
def q_le : List Nat := [115, 124, 133, 143, 154, 167, 181, 194, 210, 226, 242, 260, 278, 298, 316, 335, 356, 379, 404, 429, 454, 479, 506, 534]
def q_el : List (List Nat) := [[116, 117, 118, 119, 120], [125, 126, 127, 128], [134, 135, 136, 137], [144, 145, 146, 147], [155, 156, 157, 158, 159], [168, 169, 170, 171, 172], [182, 183, 184], [195, 196, 197, 198, 199], [211, 212, 213, 214], [227, 228, 229], [243, 244, 245, 246], [261, 262, 263], [279, 280, 281, 282], [299], [317], [336, 337], [357, 358, 359], [380, 381, 382, 383], [405, 406, 407], [430, 431], [455], [480, 481], [507, 508], [535]]
def q_ne : List Nat := [0, 129, 138, 148, 160, 173, 185, 200, 215, 230, 247, 264, 283, 300, 318, 338, 360, 384, 408, 432, 456, 482, 509, 536]
def e_tm (i : Nat) : Term := .string "AskedNames$Reader" (es_ix.getD i 0)
set_option maxRecDepth 100000 in
theorem p_ex : ∀ i, i < 24 → fl1[q_ex.getD i 0]? = some (Cond.exactly (e_tm i) "java/lang/String") := by decide +kernel
set_option maxRecDepth 100000 in
theorem p_co : ∀ i, i < 24 → fl1[q_co.getD i 0]? = some (Cond.eq (.field (e_tm i) "java/lang/String" "coder" "B") (.int 0)) := by decide +kernel
set_option maxRecDepth 100000 in
theorem p_ar : ∀ i, i < 24 → fl1[q_ar.getD i 0]? = some (Cond.arrayOf (.field (e_tm i) "java/lang/String" "value" "[B") .byte) := by decide +kernel
set_option maxRecDepth 100000 in
theorem p_le : ∀ i, i < 24 → fl1[q_le.getD i 0]? = some (Cond.eq (.length (.field (e_tm i) "java/lang/String" "value" "[B")) (.int (Int32.ofNat (es_len.getD i 0)))) := by decide +kernel
set_option maxRecDepth 100000 in
theorem p_el : ∀ i, i < 24 → ∀ j, j < es_len.getD i 0 → fl1[(q_el.getD i []).getD j 0]? = some (Cond.eq (.elem (.field (e_tm i) "java/lang/String" "value" "[B") (.int (Int32.ofNat j))) (.int ((es_byt.getD i []).getD j 0))) := by decide +kernel
set_option maxRecDepth 100000 in
theorem p_ne : ∀ i, i < 24 → ∀ j, j < 24 → i < j → fl1[q_ne.getD j 0 + i]? = some (Cond.not (Cond.eq (e_tm i) (e_tm j))) := by decide +kernel
def q_ve : List Nat := [7, 8, 9, 10]
set_option maxRecDepth 100000 in
theorem p_ve : ∀ j, j < 4 → fl1[q_ve.getD j 0]? = some (Cond.eq (.elem (.static "AskedNames$Reader" "VERBS" "[I") (.int (Int32.ofNat j))) (.int (([0, 6, 11, 13] : List Int32).getD j 0))) := by decide +kernel
section Start
variable {s : State} {args : Array Value}
theorem st_cls (hts : ∀ w ∈ lw_tbl, w.before args s = true) : ∀ q ∈ base_cl, ∃ p : ClassId × (Nat → Nat), u_Kn s q.1 q.2.1 q.2.2 p.1 p.2 := by
  have hg : ∀ w ∈ lw_g, w.before args s = true := fun w hw => hts w (List.mem_filter.mp hw).1
  unfold base_cl
  simp only [List.forall_mem_cons, List.not_mem_nil, false_imp_iff, implies_true, and_true]
  refine ⟨?_, ?_, ?_, ?_, ?_, ?_, ?_, ?_, ?_, ?_, ?_, ?_⟩
  · obtain ⟨cC, iS, h⟩ := u_known (C := Rc0) (T := Tc0) (N := 8) (n := 8) hg uw0 (hg _ inst0)
    exact ⟨(cC, iS), h⟩
  · obtain ⟨cC, iS, h⟩ := u_known (C := Rc1) (T := Tc1) (N := 8) (n := 8) hg uw1 (hg _ inst1)
    exact ⟨(cC, iS), h⟩
  · obtain ⟨cC, iS, h⟩ := u_known (C := Rc2) (T := Tc2) (N := 17) (n := 17) hg uw2 (hg _ inst2)
    exact ⟨(cC, iS), h⟩
  · obtain ⟨cC, iS, h⟩ := u_known (C := Rc3) (T := Tc3) (N := 4) (n := 4) hg uw3 (hg _ inst3)
    exact ⟨(cC, iS), h⟩
  · obtain ⟨cC, iS, h⟩ := u_known (C := Rc4) (T := Tc4) (N := 3) (n := 3) hg uw4 (hg _ inst4)
    exact ⟨(cC, iS), h⟩
  · obtain ⟨cC, iS, h⟩ := u_known (C := Rc5) (T := Tc5) (N := 14) (n := 14) hg uw5 (hg _ inst5)
    exact ⟨(cC, iS), h⟩
  · obtain ⟨cC, iS, h⟩ := u_known (C := Rc6) (T := Tc6) (N := 11) (n := 11) hg uw6 (hg _ inst6)
    exact ⟨(cC, iS), h⟩
  · obtain ⟨cC, iS, h⟩ := u_known (C := Rc7) (T := Tc7) (N := 14) (n := 14) hg uw7 (hg _ inst7)
    exact ⟨(cC, iS), h⟩
  · obtain ⟨cC, iS, h⟩ := u_known (C := Rc8) (T := Tc8) (N := 4) (n := 4) hg uw8 (hg _ inst8)
    exact ⟨(cC, iS), h⟩
  · obtain ⟨cC, iS, h⟩ := u_known (C := Rc9) (T := Tc9) (N := 8) (n := 8) hg uw9 (hg _ inst9)
    exact ⟨(cC, iS), h⟩
  · obtain ⟨cC, iS, h⟩ := u_known (C := Rc10) (T := Tc10) (N := 16) (n := 16) hg uw10 (hg _ inst10)
    exact ⟨(cC, iS), h⟩
  · obtain ⟨cC, iS, h⟩ := u_known (C := Rc11) (T := Tc11) (N := 87) (n := 87) hg uw11 (hg _ inst11)
    exact ⟨(cC, iS), h⟩
theorem st_arr (hts : ∀ w ∈ lw_tbl, w.before args s = true) : ∀ ty ∈ ty_l, ∃ cA : ClassId, ArrOfT s cA ty ∧ va_RA s cA ty := by
  have hg : ∀ w ∈ lw_g, w.before args s = true := fun w hw => hts w (List.mem_filter.mp hw).1
  have pr : ∀ ty : FieldType, (Cond.arrayClass ty).before args s = true → (∀ c, s.vm.findClass ("[" ++ ty.toString) = some c → va_RA s c ty) → ∃ cA : ClassId, ArrOfT s cA ty ∧ va_RA s cA ty := fun ty h hr => by
    obtain ⟨c, k, comp, f1, f2, f3⟩ := Cond.arrayClass_spec h
    exact ⟨c, fun N z => ⟨(fun k h => by cases h), k, f2, comp, f3⟩, hr c f1⟩
  have ob : ∀ C : String, (Cond.arrayOver (.object C)).before args s = true → ∃ cA : ClassId, ArrOfT s cA (.object C) ∧ va_RA s cA (.object C) := fun C h => by
    obtain ⟨comp, c, k, f1, f2, f3, f4, f5⟩ := Cond.arrayOver_spec h
    exact ⟨c, fun N z => ⟨(fun k h => by cases h), k, f3, comp, f4⟩, k, comp, f3, f4, f1, f5⟩
  unfold ty_l
  simp only [List.forall_mem_cons, List.not_mem_nil, false_imp_iff, implies_true, and_true]
  exact ⟨pr _ (hg _ ac_0) (fun c h => h), pr _ (hg _ ac_1) (fun c h => h), pr _ (hg _ ac_2) (fun c h => h), pr _ (hg _ ac_3) (fun c h => h), ob _ (hts _ (in_k1 208 rfl)), ob _ (hts _ (in_k1 37 rfl)), ob _ (hts _ (in_k1 126 rfl)), ob _ (hts _ (in_k1 155 rfl)), ob _ (hts _ (in_k2 39 rfl)), ob _ (hts _ (in_k2 41 rfl)), ob _ (hts _ (in_k2 108 rfl)), ob _ (hts _ (in_k2 110 rfl))⟩
def AOp (s : State) : FieldType → Prop
  | .object C => va_AO C s
  | _ => True
theorem st_AO (hts : ∀ w ∈ lw_tbl, w.before args s = true) : AO s := by
  have h : ∀ ty ∈ ty_l, AOp s ty := (List.forall_mem_cons.mpr ⟨trivial, (List.forall_mem_cons.mpr ⟨trivial, (List.forall_mem_cons.mpr ⟨trivial, (List.forall_mem_cons.mpr ⟨trivial, (List.forall_mem_cons.mpr ⟨va_AO.of (hts _ (in_k1 208 rfl)), (List.forall_mem_cons.mpr ⟨va_AO.of (hts _ (in_k1 37 rfl)), (List.forall_mem_cons.mpr ⟨va_AO.of (hts _ (in_k1 126 rfl)), (List.forall_mem_cons.mpr ⟨va_AO.of (hts _ (in_k1 155 rfl)), (List.forall_mem_cons.mpr ⟨va_AO.of (hts _ (in_k2 39 rfl)), (List.forall_mem_cons.mpr ⟨va_AO.of (hts _ (in_k2 41 rfl)), (List.forall_mem_cons.mpr ⟨va_AO.of (hts _ (in_k2 108 rfl)), (List.forall_mem_cons.mpr ⟨va_AO.of (hts _ (in_k2 110 rfl)), (fun _ h => absurd h List.not_mem_nil)⟩)⟩)⟩)⟩)⟩)⟩)⟩)⟩)⟩)⟩)⟩)⟩)
  exact fun t C ht => h _ (List.mem_of_getElem? ht)
theorem st_ES {A : Nat → Prop} (hts : ∀ w ∈ lw_tbl, w.before args s = true) (hgv : (Jvm.Cond.and given_1 narrow_1).before args s = true) (hA : ∀ a : Nat, a < s.heap.size → ¬ A a) : ∃ sp : Sp, ES sp A s s.heap := by
  have hn : ∀ (i : Nat) (c : Cond), fl1[i]? = some c → c.before args s = true := fun i c h => flat_of_before _ hgv c (List.mem_of_getElem? h)
  obtain ⟨adK, adV, hS, hK⟩ := vk_Sof (args := args) (s := s) (N := 24) (tm := e_tm) (len := es_len) (byt := es_byt) (A := A) (by decide) (fun i hi => hn _ _ (p_ex i hi)) (fun i hi => hn _ _ (p_co i hi)) (fun i hi => hn _ _ (p_ar i hi)) (fun i hi => hn _ _ (p_le i hi)) (fun i hi j hj => hn _ _ (p_el i hi j hj)) (fun i j hi hj hij => by
    rcases Nat.lt_or_gt_of_ne hij with h | h
    · exact Or.inl (hn _ _ (p_ne i hi j hj h))
    · exact Or.inr (hn _ _ (p_ne j hj i hi h))) hA
  obtain ⟨t, ht, hT⟩ := va_Tof (args := args) (s := s) (tm := .static "AskedNames$Reader" "VERBS" "[I") (ty := .int) (N := 4) (f := fun j => .int (([0, 6, 11, 13] : List Int32).getD j 0)) (A := A) (by decide) (hn 5 _ (by decide +kernel)) (va_eqt (hn 6 _ (by decide +kernel))) (fun j hj => va_eqt (hn _ _ (p_ve j hj))) hA
  refine ⟨(adK, adV, t), hS, fun i hi => vk_R.of (hts _ (sref i hi)) (hK i hi), va_Zref (hts _ (in_k3 119 rfl)) (hts _ (in_k1 6 rfl)) ht hA, hT, va_Zof (hts _ (in_k3 149 rfl)) (hts _ (in_k1 14 rfl)) (va_eqi (hn 11 _ (by decide +kernel))) hA, ?_⟩
  rcases va_Zqof (hts _ (in_k3 165 rfl)) (hts _ (in_k1 16 rfl)) (hn 12 _ (by decide +kernel)) hA with h | ⟨q, h⟩
  · exact ⟨none, h⟩
  · exact ⟨some q, h⟩
theorem st_KE {A : Nat → Prop} (hts : ∀ w ∈ lw_tbl, w.before args s = true) (hgv : (Jvm.Cond.and given_1 narrow_1).before args s = true) (hA : ∀ a : Nat, a < s.heap.size → ¬ A a) : ∃ (D : va_G) (cA : Nat → ClassId) (sp : Sp), KE D cA A sp s s.heap := by
  obtain ⟨sp, hE⟩ := st_ES hts hgv hA
  have h0 : ∀ c : Nat, ∃ p : ClassId × (Nat → Nat), ∀ q : vw_C, cls_l[c]? = some q → u_Kn s q.1 q.2.1 q.2.2 p.1 p.2 := fun c => by
    cases hc : cls_l[c]? with
    | none => exact ⟨(0, fun _ => 0), fun q h => by cases h⟩
    | some q =>
      have hm : q ∈ base_cl := by
        have := List.mem_of_getElem? hc
        unfold cls_l at this
        exact (List.mem_append.mp this).elim id id
      obtain ⟨p, hp⟩ := st_cls hts q hm
      exact ⟨p, fun q' h => by cases h; exact hp⟩
  have h1 : ∀ t : Nat, ∃ cA : ClassId, ∀ ty : FieldType, ty_l[t]? = some ty → ArrOfT s cA ty ∧ va_RA s cA ty := fun t => by
    cases hc : ty_l[t]? with
    | none => exact ⟨0, fun q h => by cases h⟩
    | some ty =>
      obtain ⟨cA, h⟩ := st_arr hts ty (List.mem_of_getElem? hc)
      exact ⟨cA, fun q' h2 => by cases h2; exact h⟩
  obtain ⟨d, hd⟩ := Classical.axiomOfChoice h0
  obtain ⟨cA, hc⟩ := Classical.axiomOfChoice h1
  refine ⟨(fun c => (d c).1, fun c => (d c).2), cA, sp, ⟨fun c q h => hd c q h, fun t ty h => hc t ty h⟩, fun w hw hn => ?_, hE⟩
  refine va_Nw.of ?_ (hts w hw)
  cases w <;> first | rfl | (cases hn; done)
end Start
