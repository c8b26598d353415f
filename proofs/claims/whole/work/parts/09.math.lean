theorem nest_no (own : String) (idx : Nat) (host : String) {y : MethodName} (hy : (y.cls == "java/lang/Math") = true) : Cond.methodLinkNest own idx y host ∉ lw_tbl := by
  intro h
  have h2 : lw_tbl.all (fun w => match w with
    | .methodLinkNest _ _ y _ => !(y.cls == "java/lang/Math")
    | _ => true) = true := by decide +kernel
  have h3 := List.all_eq_true.mp h2 _ h
  simp [hy] at h3
def jmax (x y : Int32) : Int32 := if x < y then y else x
theorem g_mmax {Γ : CT} {sp : Sp} {cc : ByteArray} {own : String} {nL : Nat} {ret : Option FieldType} {lev : Nat} {v : Option Value} {zf : Nat} {Kf : Ly} {hf : Hp} {pc : Nat} {lv : List (Nat × Value)} {st : List Value} {sz : Nat} {K : Ly} {h : Hp} (X : Ok Γ sp cc own nL ret lev v zf Kf hf) {idx : Nat} {x y : Int32} (d : decode cc pc = .ok (.invokestatic idx, 3)) (L : MLk 1 own idx yJMath_max prog_16_method_65_code 2 (some .int) 2) (hlev : 2 ≤ lev) (hst : (st.map fun v => v.category).sum ≤ 8) (kk : Go Γ (0, 0) (pc + 3) lv (.int (jmax x y) :: st) sz K h) : Go Γ (0, 0) pc lv (.int y :: .int x :: st) sz K h := by
  obtain ⟨⟨p, l, e, R, s, m0, args, below, meth, c⟩, D, cA, A, sp0, nL0, mc, ms, v0, zf0, Kf0, hf0⟩ := Γ
  obtain ⟨hx, hb, hml, rfl, -, hown, hts, -, hE, ⟨hR1, hR2, -, -⟩, -⟩ := X
  intro H locs ls hl hR hS
  obtain ⟨hcode, hini, hlink, -, -, hsta⟩ := L
  have hlink : Cond.methodLink own idx yJMath_max ∈ lw_g := by
    rcases hlink with h | ⟨host, h⟩
    · exact h
    · exact absurd h (nest_no _ _ _ rfl)
  exact va_mmax hx hb (by rw [hml]; exact hl.1.symm) hown (hts _ hlink) (hts _ hsta) (hts _ hini) (hts _ hcode) (by omega) (by omega) (Nat.zero_le _) (Nat.zero_le _) d (kk H locs ls hl hR hS)
def jmin (x y : Int32) : Int32 := if y < x then y else x
theorem g_mmin {Γ : CT} {sp : Sp} {cc : ByteArray} {own : String} {nL : Nat} {ret : Option FieldType} {lev : Nat} {v : Option Value} {zf : Nat} {Kf : Ly} {hf : Hp} {pc : Nat} {lv : List (Nat × Value)} {st : List Value} {sz : Nat} {K : Ly} {h : Hp} (X : Ok Γ sp cc own nL ret lev v zf Kf hf) {idx : Nat} {x y : Int32} (d : decode cc pc = .ok (.invokestatic idx, 3)) (L : MLk 1 own idx yJMath_min prog_16_method_69_code 2 (some .int) 2) (hlev : 2 ≤ lev) (hst : (st.map fun v => v.category).sum ≤ 8) (kk : Go Γ (0, 0) (pc + 3) lv (.int (jmin x y) :: st) sz K h) : Go Γ (0, 0) pc lv (.int y :: .int x :: st) sz K h := by
  obtain ⟨⟨p, l, e, R, s, m0, args, below, meth, c⟩, D, cA, A, sp0, nL0, mc, ms, v0, zf0, Kf0, hf0⟩ := Γ
  obtain ⟨hx, hb, hml, rfl, -, hown, hts, -, hE, ⟨hR1, hR2, -, -⟩, -⟩ := X
  intro H locs ls hl hR hS
  obtain ⟨hcode, hini, hlink, -, -, hsta⟩ := L
  have hlink : Cond.methodLink own idx yJMath_min ∈ lw_g := by
    rcases hlink with h | ⟨host, h⟩
    · exact h
    · exact absurd h (nest_no _ _ _ rfl)
  exact va_mmin hx hb (by rw [hml]; exact hl.1.symm) hown (hts _ hlink) (hts _ hsta) (hts _ hini) (hts _ hcode) (by omega) (by omega) (Nat.zero_le _) (Nat.zero_le _) d (kk H locs ls hl hR hS)
