theorem ac_nat : Cond.native arraycopyName ∈ lw_g := in_c4 15 (by decide +kernel) (by decide +kernel)
theorem ac_sta : Cond.static arraycopyName ∈ lw_g := in_c4 14 (by decide +kernel) (by decide +kernel)
theorem ac_ini : Cond.initialized "java/lang/System" ∈ lw_g := in_c1 19 (by decide +kernel) (by decide +kernel)
def cpI (h : Hp) (a b n : Nat) : Hp := (fun a' k' => if a' = b ∧ k' < n then h.1 a k' else h.1 a' k', h.2.1, h.2.2)
theorem tV_cp {h : Hp} {a b n : Nat} {q : Nat} (hq : q ≠ b) (c j : Nat) : tV c (cpI h a b n) q j = tV c h q j := by
  match c with
  | 0 => simp [tV, cpI, hq]
  | 1 => rfl
  | 2 => rfl
  | c + 3 => rfl
theorem lk_out {x : Int32} {ps : List (Int × Int)} {dflt : Int} (h : ∀ q ∈ ps, ¬ x = Int32.ofInt q.1) : Op.lookupswitch.offset ps dflt x.toInt = dflt := by
  induction ps with
  | nil => rfl
  | cons q ps ih =>
    obtain ⟨a, o⟩ := q
    rw [Op.lookupswitch.offset_cons, if_neg, ih (fun q hq => h q (List.mem_cons_of_mem _ hq))]
    intro e
    exact h (a, o) List.mem_cons_self (by show x = Int32.ofInt a; rw [e, Int32.ofInt_toInt])
section More
variable {Γ : CT} {sp : Sp} {cc : ByteArray} {own : String} {nL : Nat} {ret : Option FieldType} {lev : Nat} {v : Option Value} {zf : Nat} {Kf : Ly} {hf : Hp} {pc : Nat} {lv : List (Nat × Value)} {st : List Value} {sz : Nat} {K : Ly} {h : Hp}
theorem g_callV1 (X : Ok Γ sp cc own nL ret lev v zf Kf hf) {o ci idx n2 lev2 : Nat} {r : vw_C} {y : MethodName} {b : ByteArray} {ret2 : Option FieldType} {x : Value} {h' : Hp} (As : List Value) (d : decode cc pc = .ok (.invokevirtual idx, 3)) (L : MLk 0 own idx y b n2 ret2 As.length) (hk : K o = some (.inl ci)) (hc : cls_l[ci]? = some r) (hy : r.1 = y.cls) (hlev : lev2 < lev) (hst : (st.map fun v => v.category).sum ≤ 8) (hM : Con sp y b n2 ret2 lev2 0 0 (.ref o :: As) sz K h (some x) sz K h') (kk : Go Γ (0, 0) (pc + 3) lv (x :: st) sz K h') : Go Γ (0, 0) pc lv (As.reverse ++ .ref o :: st) sz K h := g_callV X As d L hk hc hy hlev hst hM kk
theorem g_callV0 (X : Ok Γ sp cc own nL ret lev v zf Kf hf) {o ci idx n2 lev2 : Nat} {r : vw_C} {y : MethodName} {b : ByteArray} {ret2 : Option FieldType} {h' : Hp} (As : List Value) (d : decode cc pc = .ok (.invokevirtual idx, 3)) (L : MLk 0 own idx y b n2 ret2 As.length) (hk : K o = some (.inl ci)) (hc : cls_l[ci]? = some r) (hy : r.1 = y.cls) (hlev : lev2 < lev) (hst : (st.map fun v => v.category).sum ≤ 8) (hM : Con sp y b n2 ret2 lev2 0 0 (.ref o :: As) sz K h none sz K h') (kk : Go Γ (0, 0) (pc + 3) lv st sz K h') : Go Γ (0, 0) pc lv (As.reverse ++ .ref o :: st) sz K h := g_callV X As d L hk hc hy hlev hst hM kk
theorem g_callS1 (X : Ok Γ sp cc own nL ret lev v zf Kf hf) {idx n2 lev2 : Nat} {y : MethodName} {b : ByteArray} {ret2 : Option FieldType} {x : Value} {h' : Hp} (As : List Value) (d : decode cc pc = .ok (.invokestatic idx, 3)) (L : MLk 1 own idx y b n2 ret2 As.length) (hlev : lev2 < lev) (hst : (st.map fun v => v.category).sum ≤ 8) (hM : Con sp y b n2 ret2 lev2 0 0 As sz K h (some x) sz K h') (kk : Go Γ (0, 0) (pc + 3) lv (x :: st) sz K h') : Go Γ (0, 0) pc lv (As.reverse ++ st) sz K h := g_callS X As d L hlev hst hM kk
theorem g_callS0 (X : Ok Γ sp cc own nL ret lev v zf Kf hf) {idx n2 lev2 : Nat} {y : MethodName} {b : ByteArray} {ret2 : Option FieldType} {h' : Hp} (As : List Value) (d : decode cc pc = .ok (.invokestatic idx, 3)) (L : MLk 1 own idx y b n2 ret2 As.length) (hlev : lev2 < lev) (hst : (st.map fun v => v.category).sum ≤ 8) (hM : Con sp y b n2 ret2 lev2 0 0 As sz K h none sz K h') (kk : Go Γ (0, 0) (pc + 3) lv st sz K h') : Go Γ (0, 0) pc lv (As.reverse ++ st) sz K h := g_callS X As d L hlev hst hM kk
theorem g_acopy (X : Ok Γ sp cc own nL ret lev v zf Kf hf) {a b t m idx : Nat} {n : Int32} {h1 : Hp} (d : decode cc pc = .ok (.invokestatic idx, 3)) (hli : Cond.methodLink own idx arraycopyName ∈ lw_g) (hlev : 2 ≤ lev) (hst : (st.map fun v => v.category).sum ≤ 8) (ht : t = 0 ∨ t = 1) (hka : K a = some (.inr (t, m))) (hkb : K b = some (.inr (t, m))) (hn : n.toNatClampNeg = m) (hn0 : ¬ n < 0) (eh : cpI h a b m = h1) (kk : Go Γ (0, 0) (pc + 3) lv st sz K h1) : Go Γ (0, 0) pc lv (.int n :: .int 0 :: .ref b :: .int 0 :: .ref a :: st) sz K h := by
  subst eh
  obtain ⟨⟨p, l, e, R, s, m0, args, below, meth, c⟩, D, cA, A, sp0, nL0, mc, ms, v0, zf0, Kf0, hf0⟩ := Γ
  obtain ⟨hx, hb, hml, rfl, -, hown, hts, -, hE, ⟨hR1, hR2, -, -⟩, -⟩ := X
  intro H locs ls hl hR hS
  have hek : ek t = 0 := by rcases ht with rfl | rfl <;> rfl
  obtain ⟨hAb, hcb, hbb⟩ := hR.2 b _ hkb
  obtain ⟨-, hca, hba⟩ := hR.2 a _ hka
  rw [hek] at hca hcb
  have hty : ∃ ty, ty_l[t]? = some ty ∧ refKind ty = false ∧ ∀ i, i < m → fits ty (.int (h.1 a i)) = true := by
    rcases ht with rfl | rfl
    · exact ⟨.int, rfl, rfl, fun i _ => rfl⟩
    · exact ⟨.byte, rfl, rfl, fun i hi => hba rfl i hi⟩
  obtain ⟨ty, hty, hprim, hfit⟩ := hty
  intro T hT X
  have hc0 : H[a]? = some (vp_cell (cA t) (m, .inl (h.1 a))) := hca
  have hc1 : H[b]? = some (vp_cell (cA t) (m, .inl (h.1 b))) := hcb
  obtain ⟨-, k0, hk0, cm0, hkk0⟩ := (hE.1.2 t _ hty).1 m (fun j => .int (h.1 a j))
  have hz : ¬ (0 : Int32) < 0 := by decide
  have hnn : n.toInt = (m : Int) := by
    rw [← hn]
    have hz0 : (0 : Int) ≤ n.toInt := by simpa using Int32.le_iff_toInt_le.mp (Int32.not_lt.mp hn0)
    show n.toInt = ((n.toInt.toNat : Nat) : Int)
    omega
  obtain ⟨vm', X', step⟩ := X.arraycopy hx hown (hts _ hli) (hts _ ac_nat) (hts _ ac_sta) (hts _ ac_ini) (src := a) (dst := b) (cs := vp_cell (cA t) (m, .inl (h.1 a))) (cd := vp_cell (cA t) (m, .inl (h.1 b))) (srcPos := 0) (destPos := 0) (n := n) (by rw [hT]; exact hc0) (by rw [hT]; exact hc1)
    (fun _ h => by cases h) (fun _ h => by cases h) (fun h => by cases h) (fun h => by cases h) hk0 hk0 hkk0 hkk0 (by simp [hprim]) hz hz hn0
    (by rw [hnn]; show ¬ _ > ((arrV (cA t) m (fun j => .int (h.1 a j))).slots.size : Int); rw [arrV_size]; simp)
    (by rw [hnn]; show ¬ _ > ((arrV (cA t) m (fun j => .int (h.1 b j))).slots.size : Int); rw [arrV_size]; simp)
    (fun vm₁ _ i hi => by
      have e : (vp_cell (cA t) (m, .inl (h.1 a))).slots.getD ((0 : Int32).toNatClampNeg + i) .null = .int (h.1 a i) := by
        show (arrV (cA t) m (fun j => .int (h.1 a j))).slots.getD _ _ = _
        rw [show (0 : Int32).toNatClampNeg + i = i from Nat.zero_add i, Array.getD_eq_getD_getElem?, arrV_read _ _ (by omega)]
        rfl
      refine ⟨?_, ?_⟩
      · rw [e]
        exact hfit i (by omega)
      · rw [e]
        exact trivial)
    (g := F0 m0 pc ls (.int n :: .int 0 :: .ref b :: .int 0 :: .ref a :: st)) rfl (by rw [hml]; exact hl.1) (rest := st) rfl (by rw [hb]; exact d) (by omega) (by show 2 * 0 + _ + _ ≤ _; have : nativeFrameWords "java/lang/System" "arraycopy" 5 ≤ 40 := (by decide); omega)
  have e1 : copied (vp_cell (cA t) (m, .inl (h.1 a))) (vp_cell (cA t) (m, .inl (h.1 b))) 0 0 n = arrV (cA t) m (fun j => .int (va_cpy (h.1 a) (h.1 b) (0 : Int32).toNatClampNeg (0 : Int32).toNatClampNeg n.toNatClampNeg j)) := va_copied (fun z => .int z) (cA t) (cA t) (h.1 a) (h.1 b) (by rw [hn]; exact Nat.le_of_eq (Nat.zero_add m))
  have e2 : (fun j => Value.int (va_cpy (h.1 a) (h.1 b) (0 : Int32).toNatClampNeg (0 : Int32).toNatClampNeg n.toNatClampNeg j)) = fun j => tV (ek t) (cpI h a b m) b j := by
    funext j
    rw [hek, hn]
    show Value.int (va_cpy (h.1 a) (h.1 b) 0 0 m j) = .int ((cpI h a b m).1 b j)
    simp [va_cpy, cpI]
  rw [e1, e2] at X' step
  have hlt : b < H.size := (Array.getElem?_eq_some_iff.mp hc1).1
  have oq : ∀ q : Nat, q ≠ b → (H.setIfInBounds b (arrV (cA t) m (fun j => tV (ek t) (cpI h a b m) b j)))[q]? = H[q]? := fun q hq => by simp [Array.getElem?_setIfInBounds, Ne.symm hq]
  obtain ⟨t2, a1, b1⟩ := kk (H.setIfInBounds b (arrV (cA t) m (fun j => tV (ek t) (cpI h a b m) b j))) _ ls hl (hR.one (by simp) oq (fun q hq c j => tV_cp hq c j) (fun kd hkd => by
      obtain rfl : kd = .inr (t, m) := Option.some.inj (hkd.symm.trans hkb)
      refine ⟨by simp [Array.getElem?_setIfInBounds, hlt], fun ht1 j hj => ?_⟩
      by_cases hjm : j < m
      · have e3 : (cpI h a b m).1 b j = h.1 a j := by simp [cpI, hjm]
        rw [e3]; exact hba ht1 j hj
      · exact absurd hj hjm)) ⟨by simp; exact hS.1, fun q g1 g2 => by
      rw [oq q (fun e => g2 (by rw [e]; exact hAb))]
      exact hS.2.1 q g1 g2, fun q hq => by
      rcases List.mem_append.mp hq with h | h
      · exact hS.2.2 q h
      · obtain ⟨z, -, hz⟩ := List.mem_map.mp h
        rw [← hz]
        exact hAb⟩ _ (by rw [← hT]; rfl) X'
  exact ⟨t2, step t2 a1, b1⟩
end More
