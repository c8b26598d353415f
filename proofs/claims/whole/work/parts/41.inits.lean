set_option maxRecDepth 100000 in
theorem mk1_init : MKk 2 y1_init prog_11_method_1_code 1 none 0 := ⟨in_c1 34 rfl rfl, ini1, ⟨by decide +kernel, by decide +kernel, by decide +kernel⟩, by decide, ⟨rfl, in_c1 33 rfl rfl⟩⟩
set_option maxRecDepth 100000 in
theorem mi0_9 : MLk 2 Rc0 9 y1_init prog_11_method_1_code 1 none 0 := mk1_init.link (Or.inr ⟨"AskedNames", in_k1 32 rfl⟩)
set_option maxRecDepth 100000 in
theorem mk5_init : MKk 2 y5_init prog_8_method_1_code 1 none 0 := ⟨in_c1 213 rfl rfl, ini5, ⟨by decide +kernel, by decide +kernel, by decide +kernel⟩, by decide, ⟨rfl, in_c1 212 rfl rfl⟩⟩
set_option maxRecDepth 100000 in
theorem mi0_26 : MLk 2 Rc0 26 y5_init prog_8_method_1_code 1 none 0 := mk5_init.link (Or.inr ⟨"AskedNames", in_k1 211 rfl⟩)
set_option maxRecDepth 100000 in
theorem mk10_init : MKk 2 y10_init prog_2_method_1_code 2 none 0 := ⟨in_c2 34 rfl rfl, ini10, ⟨by decide +kernel, by decide +kernel, by decide +kernel⟩, by decide, ⟨rfl, in_c2 33 rfl rfl⟩⟩
set_option maxRecDepth 100000 in
theorem mi0_33 : MLk 2 Rc0 33 y10_init prog_2_method_1_code 2 none 0 := mk10_init.link (Or.inl (in_c2 32 rfl rfl))
set_option maxRecDepth 100000 in
theorem mk2_init : MKk 2 y2_init prog_7_method_1_code 1 none 0 := ⟨in_c1 41 rfl rfl, ini2, ⟨by decide +kernel, by decide +kernel, by decide +kernel⟩, by decide, ⟨rfl, in_c1 40 rfl rfl⟩⟩
set_option maxRecDepth 100000 in
theorem mi1_31 : MLk 2 Rc1 31 y2_init prog_7_method_1_code 1 none 0 := mk2_init.link (Or.inr ⟨"AskedNames", in_k1 39 rfl⟩)
set_option maxRecDepth 100000 in
theorem mk3_init : MKk 2 y3_init prog_9_method_1_code 1 none 0 := ⟨in_c1 130 rfl rfl, ini3, ⟨by decide +kernel, by decide +kernel, by decide +kernel⟩, by decide, ⟨rfl, in_c1 129 rfl rfl⟩⟩
set_option maxRecDepth 100000 in
theorem mi1_38 : MLk 2 Rc1 38 y3_init prog_9_method_1_code 1 none 0 := mk3_init.link (Or.inr ⟨"AskedNames", in_k1 128 rfl⟩)
set_option maxRecDepth 100000 in
theorem mk4_init : MKk 2 y4_init prog_5_method_1_code 1 none 0 := ⟨in_c1 159 rfl rfl, ini4, ⟨by decide +kernel, by decide +kernel, by decide +kernel⟩, by decide, ⟨rfl, in_c1 158 rfl rfl⟩⟩
set_option maxRecDepth 100000 in
theorem mi1_45 : MLk 2 Rc1 45 y4_init prog_5_method_1_code 1 none 0 := mk4_init.link (Or.inr ⟨"AskedNames", in_k1 157 rfl⟩)
set_option maxRecDepth 100000 in
theorem mi5_11 : MLk 2 Rc5 11 y2_init prog_7_method_1_code 1 none 0 := mk2_init.link (Or.inr ⟨"AskedNames", in_k1 216 rfl⟩)
set_option maxRecDepth 100000 in
theorem mi5_20 : MLk 2 Rc5 20 y3_init prog_9_method_1_code 1 none 0 := mk3_init.link (Or.inr ⟨"AskedNames", in_k1 218 rfl⟩)
set_option maxRecDepth 100000 in
theorem mi5_27 : MLk 2 Rc5 27 y4_init prog_5_method_1_code 1 none 0 := mk4_init.link (Or.inr ⟨"AskedNames", in_k1 220 rfl⟩)
set_option maxRecDepth 100000 in
theorem mi10_11 : MLk 2 Rc10 11 y2_init prog_7_method_1_code 1 none 0 := mk2_init.link (Or.inr ⟨"AskedNames", in_k2 37 rfl⟩)
set_option maxRecDepth 100000 in
theorem mk7_init : MKk 2 y7_init prog_6_method_1_code 1 none 0 := ⟨in_c2 45 rfl rfl, ini7, ⟨by decide +kernel, by decide +kernel, by decide +kernel⟩, by decide, ⟨rfl, in_c2 44 rfl rfl⟩⟩
set_option maxRecDepth 100000 in
theorem mi10_49 : MLk 2 Rc10 49 y7_init prog_6_method_1_code 1 none 0 := mk7_init.link (Or.inr ⟨"AskedNames", in_k2 43 rfl⟩)
set_option maxRecDepth 100000 in
theorem mk6_init : MKk 2 y6_init prog_3_method_1_code 1 none 0 := ⟨in_c2 114 rfl rfl, ini6, ⟨by decide +kernel, by decide +kernel, by decide +kernel⟩, by decide, ⟨rfl, in_c2 113 rfl rfl⟩⟩
set_option maxRecDepth 100000 in
theorem mi10_80 : MLk 2 Rc10 80 y6_init prog_3_method_1_code 1 none 0 := mk6_init.link (Or.inr ⟨"AskedNames", in_k2 112 rfl⟩)
set_option maxRecDepth 100000 in
theorem mk8_init : MKk 2 y8_init prog_10_method_1_code 1 none 0 := ⟨in_c2 165 rfl rfl, ini8, ⟨by decide +kernel, by decide +kernel, by decide +kernel⟩, by decide, ⟨rfl, in_c2 164 rfl rfl⟩⟩
set_option maxRecDepth 100000 in
theorem mi10_81 : MLk 2 Rc10 81 y8_init prog_10_method_1_code 1 none 0 := mk8_init.link (Or.inr ⟨"AskedNames", in_k2 163 rfl⟩)
set_option maxRecDepth 100000 in
theorem mk9_init : MKk 2 y9_init prog_4_method_1_code 1 none 0 := ⟨in_c2 191 rfl rfl, ini9, ⟨by decide +kernel, by decide +kernel, by decide +kernel⟩, by decide, ⟨rfl, in_c2 190 rfl rfl⟩⟩
set_option maxRecDepth 100000 in
theorem mi10_82 : MLk 2 Rc10 82 y9_init prog_4_method_1_code 1 none 0 := mk9_init.link (Or.inr ⟨"AskedNames", in_k2 189 rfl⟩)
set_option maxRecDepth 100000 in
theorem mk0_init : MKk 2 y0_init prog_1_method_1_code 1 none 0 := ⟨in_c1 26 rfl rfl, ini0, ⟨by decide +kernel, by decide +kernel, by decide +kernel⟩, by decide, ⟨rfl, in_c1 25 rfl rfl⟩⟩
set_option maxRecDepth 100000 in
theorem miL_9 : MLk 2 "AskedNamesLaw" 9 y0_init prog_1_method_1_code 1 none 0 := mk0_init.link (Or.inl (in_c1 24 rfl rfl))
set_option maxRecDepth 100000 in
theorem mk11_init : MKk 2 y11_init prog_13_method_1_code 1 none 0 := ⟨in_c5 197 rfl rfl, ini11, ⟨by decide +kernel, by decide +kernel, by decide +kernel⟩, by decide, ⟨rfl, in_c5 196 rfl rfl⟩⟩
set_option maxRecDepth 100000 in
theorem miL_12 : MLk 2 "AskedNamesLaw" 12 y11_init prog_13_method_1_code 1 none 0 := mk11_init.link (Or.inl (in_c5 195 rfl rfl))
set_option maxRecDepth 100000 in
theorem ob_i : Cond.instanceMethod Lib.objectInit ∈ lw_g := in_c1 28 rfl rfl
set_option maxRecDepth 100000 in
theorem ob_c : Cond.code Lib.objectInit ⟨#[0xb1]⟩ 1 none ∈ lw_g := in_c1 29 rfl rfl
set_option maxRecDepth 100000 in
theorem inst0 : Cond.instantiable Rc0 8 ∈ lw_g := in_c1 23 rfl rfl
theorem def0 : ∀ (ty : Nat → FieldType), (∀ k, k < 8 → parseFieldDescriptor (Tc0 k).2.2.1 = some (ty k)) → ∀ k, k < 8 → defaultValue (ty k) = (match fc 12 k with
      | 0 => Value.int 0
      | 1 => .long 0
      | _ => .null) := by
  intro ty hty k hk
  have h1 := (ty0 k hk).symm.trans (hty k hk)
  rw [← Option.some.inj h1]
  exact (show ∀ k, k < 8 → defaultValue (yc0 k) = (match fc 12 k with
      | 0 => Value.int 0
      | 1 => .long 0
      | _ => .null) by decide +kernel) k hk
theorem raw0 : ∀ k, k < 8 → fc 12 k ≤ 2 := by decide +kernel
set_option maxRecDepth 100000 in
theorem inst1 : Cond.instantiable Rc1 8 ∈ lw_g := in_c1 31 rfl rfl
theorem def1 : ∀ (ty : Nat → FieldType), (∀ k, k < 8 → parseFieldDescriptor (Tc1 k).2.2.1 = some (ty k)) → ∀ k, k < 8 → defaultValue (ty k) = (match fc 13 k with
      | 0 => Value.int 0
      | 1 => .long 0
      | _ => .null) := by
  intro ty hty k hk
  have h1 := (ty1 k hk).symm.trans (hty k hk)
  rw [← Option.some.inj h1]
  exact (show ∀ k, k < 8 → defaultValue (yc1 k) = (match fc 13 k with
      | 0 => Value.int 0
      | 1 => .long 0
      | _ => .null) by decide +kernel) k hk
theorem raw1 : ∀ k, k < 8 → fc 13 k ≤ 2 := by decide +kernel
set_option maxRecDepth 100000 in
theorem inst2 : Cond.instantiable Rc2 17 ∈ lw_g := in_c1 38 rfl rfl
theorem def2 : ∀ (ty : Nat → FieldType), (∀ k, k < 17 → parseFieldDescriptor (Tc2 k).2.2.1 = some (ty k)) → ∀ k, k < 17 → defaultValue (ty k) = (match fc 14 k with
      | 0 => Value.int 0
      | 1 => .long 0
      | _ => .null) := by
  intro ty hty k hk
  have h1 := (ty2 k hk).symm.trans (hty k hk)
  rw [← Option.some.inj h1]
  exact (show ∀ k, k < 17 → defaultValue (yc2 k) = (match fc 14 k with
      | 0 => Value.int 0
      | 1 => .long 0
      | _ => .null) by decide +kernel) k hk
theorem raw2 : ∀ k, k < 17 → fc 14 k ≤ 2 := by decide +kernel
set_option maxRecDepth 100000 in
theorem inst3 : Cond.instantiable Rc3 4 ∈ lw_g := in_c1 127 rfl rfl
theorem def3 : ∀ (ty : Nat → FieldType), (∀ k, k < 4 → parseFieldDescriptor (Tc3 k).2.2.1 = some (ty k)) → ∀ k, k < 4 → defaultValue (ty k) = (match fc 15 k with
      | 0 => Value.int 0
      | 1 => .long 0
      | _ => .null) := by
  intro ty hty k hk
  have h1 := (ty3 k hk).symm.trans (hty k hk)
  rw [← Option.some.inj h1]
  exact (show ∀ k, k < 4 → defaultValue (yc3 k) = (match fc 15 k with
      | 0 => Value.int 0
      | 1 => .long 0
      | _ => .null) by decide +kernel) k hk
theorem raw3 : ∀ k, k < 4 → fc 15 k ≤ 2 := by decide +kernel
set_option maxRecDepth 100000 in
theorem inst4 : Cond.instantiable Rc4 3 ∈ lw_g := in_c1 156 rfl rfl
theorem def4 : ∀ (ty : Nat → FieldType), (∀ k, k < 3 → parseFieldDescriptor (Tc4 k).2.2.1 = some (ty k)) → ∀ k, k < 3 → defaultValue (ty k) = (match fc 16 k with
      | 0 => Value.int 0
      | 1 => .long 0
      | _ => .null) := by
  intro ty hty k hk
  have h1 := (ty4 k hk).symm.trans (hty k hk)
  rw [← Option.some.inj h1]
  exact (show ∀ k, k < 3 → defaultValue (yc4 k) = (match fc 16 k with
      | 0 => Value.int 0
      | 1 => .long 0
      | _ => .null) by decide +kernel) k hk
theorem raw4 : ∀ k, k < 3 → fc 16 k ≤ 2 := by decide +kernel
set_option maxRecDepth 100000 in
theorem inst5 : Cond.instantiable Rc5 14 ∈ lw_g := in_c1 210 rfl rfl
theorem def5 : ∀ (ty : Nat → FieldType), (∀ k, k < 14 → parseFieldDescriptor (Tc5 k).2.2.1 = some (ty k)) → ∀ k, k < 14 → defaultValue (ty k) = (match fc 17 k with
      | 0 => Value.int 0
      | 1 => .long 0
      | _ => .null) := by
  intro ty hty k hk
  have h1 := (ty5 k hk).symm.trans (hty k hk)
  rw [← Option.some.inj h1]
  exact (show ∀ k, k < 14 → defaultValue (yc5 k) = (match fc 17 k with
      | 0 => Value.int 0
      | 1 => .long 0
      | _ => .null) by decide +kernel) k hk
theorem raw5 : ∀ k, k < 14 → fc 17 k ≤ 2 := by decide +kernel
set_option maxRecDepth 100000 in
theorem inst6 : Cond.instantiable Rc6 11 ∈ lw_g := in_c2 111 rfl rfl
theorem def6 : ∀ (ty : Nat → FieldType), (∀ k, k < 11 → parseFieldDescriptor (Tc6 k).2.2.1 = some (ty k)) → ∀ k, k < 11 → defaultValue (ty k) = (match fc 18 k with
      | 0 => Value.int 0
      | 1 => .long 0
      | _ => .null) := by
  intro ty hty k hk
  have h1 := (ty6 k hk).symm.trans (hty k hk)
  rw [← Option.some.inj h1]
  exact (show ∀ k, k < 11 → defaultValue (yc6 k) = (match fc 18 k with
      | 0 => Value.int 0
      | 1 => .long 0
      | _ => .null) by decide +kernel) k hk
theorem raw6 : ∀ k, k < 11 → fc 18 k ≤ 2 := by decide +kernel
set_option maxRecDepth 100000 in
theorem inst7 : Cond.instantiable Rc7 14 ∈ lw_g := in_c2 42 rfl rfl
theorem def7 : ∀ (ty : Nat → FieldType), (∀ k, k < 14 → parseFieldDescriptor (Tc7 k).2.2.1 = some (ty k)) → ∀ k, k < 14 → defaultValue (ty k) = (match fc 19 k with
      | 0 => Value.int 0
      | 1 => .long 0
      | _ => .null) := by
  intro ty hty k hk
  have h1 := (ty7 k hk).symm.trans (hty k hk)
  rw [← Option.some.inj h1]
  exact (show ∀ k, k < 14 → defaultValue (yc7 k) = (match fc 19 k with
      | 0 => Value.int 0
      | 1 => .long 0
      | _ => .null) by decide +kernel) k hk
theorem raw7 : ∀ k, k < 14 → fc 19 k ≤ 2 := by decide +kernel
set_option maxRecDepth 100000 in
theorem inst8 : Cond.instantiable Rc8 4 ∈ lw_g := in_c2 162 rfl rfl
theorem def8 : ∀ (ty : Nat → FieldType), (∀ k, k < 4 → parseFieldDescriptor (Tc8 k).2.2.1 = some (ty k)) → ∀ k, k < 4 → defaultValue (ty k) = (match fc 20 k with
      | 0 => Value.int 0
      | 1 => .long 0
      | _ => .null) := by
  intro ty hty k hk
  have h1 := (ty8 k hk).symm.trans (hty k hk)
  rw [← Option.some.inj h1]
  exact (show ∀ k, k < 4 → defaultValue (yc8 k) = (match fc 20 k with
      | 0 => Value.int 0
      | 1 => .long 0
      | _ => .null) by decide +kernel) k hk
theorem raw8 : ∀ k, k < 4 → fc 20 k ≤ 2 := by decide +kernel
set_option maxRecDepth 100000 in
theorem inst9 : Cond.instantiable Rc9 8 ∈ lw_g := in_c2 188 rfl rfl
theorem def9 : ∀ (ty : Nat → FieldType), (∀ k, k < 8 → parseFieldDescriptor (Tc9 k).2.2.1 = some (ty k)) → ∀ k, k < 8 → defaultValue (ty k) = (match fc 21 k with
      | 0 => Value.int 0
      | 1 => .long 0
      | _ => .null) := by
  intro ty hty k hk
  have h1 := (ty9 k hk).symm.trans (hty k hk)
  rw [← Option.some.inj h1]
  exact (show ∀ k, k < 8 → defaultValue (yc9 k) = (match fc 21 k with
      | 0 => Value.int 0
      | 1 => .long 0
      | _ => .null) by decide +kernel) k hk
theorem raw9 : ∀ k, k < 8 → fc 21 k ≤ 2 := by decide +kernel
set_option maxRecDepth 100000 in
theorem inst10 : Cond.instantiable Rc10 16 ∈ lw_g := in_c2 31 rfl rfl
theorem def10 : ∀ (ty : Nat → FieldType), (∀ k, k < 16 → parseFieldDescriptor (Tc10 k).2.2.1 = some (ty k)) → ∀ k, k < 16 → defaultValue (ty k) = (match fc 22 k with
      | 0 => Value.int 0
      | 1 => .long 0
      | _ => .null) := by
  intro ty hty k hk
  have h1 := (ty10 k hk).symm.trans (hty k hk)
  rw [← Option.some.inj h1]
  exact (show ∀ k, k < 16 → defaultValue (yc10 k) = (match fc 22 k with
      | 0 => Value.int 0
      | 1 => .long 0
      | _ => .null) by decide +kernel) k hk
theorem raw10 : ∀ k, k < 16 → fc 22 k ≤ 2 := by decide +kernel
set_option maxRecDepth 100000 in
theorem inst11 : Cond.instantiable Rc11 87 ∈ lw_g := in_c5 194 rfl rfl
theorem def11 : ∀ (ty : Nat → FieldType), (∀ k, k < 87 → parseFieldDescriptor (Tc11 k).2.2.1 = some (ty k)) → ∀ k, k < 87 → defaultValue (ty k) = (match fc 23 k with
      | 0 => Value.int 0
      | 1 => .long 0
      | _ => .null) := by
  intro ty hty k hk
  have h1 := (ty11 k hk).symm.trans (hty k hk)
  rw [← Option.some.inj h1]
  exact (show ∀ k, k < 87 → defaultValue (yc11 k) = (match fc 23 k with
      | 0 => Value.int 0
      | 1 => .long 0
      | _ => .null) by decide +kernel) k hk
theorem raw11 : ∀ k, k < 87 → fc 23 k ≤ 2 := by decide +kernel
set_option maxRecDepth 100000 in
theorem ac_0 : Cond.arrayClass (.int) ∈ lw_g := in_c1 124 rfl rfl
set_option maxRecDepth 100000 in
theorem ac_1 : Cond.arrayClass (.byte) ∈ lw_g := in_c1 123 rfl rfl
set_option maxRecDepth 100000 in
theorem ac_2 : Cond.arrayClass (.boolean) ∈ lw_g := in_c2 29 rfl rfl
set_option maxRecDepth 100000 in
theorem ac_3 : Cond.arrayClass (.long) ∈ lw_g := in_c2 161 rfl rfl
def kI2 (K : Ly) (o : Nat) : Ly := (kS (kS (kS (kS (kS (kS (kS (kS (kS (kS (kS (kS (kS K (o + 1) (.inr (0, 6))) (o + 2) (.inr (0, 15))) (o + 3) (.inr (0, 15))) (o + 4) (.inr (0, 15))) (o + 5) (.inr (0, 36))) (o + 6) (.inr (0, 12))) (o + 7) (.inr (0, 12))) (o + 8) (.inr (0, 12))) (o + 9) (.inr (0, 12))) (o + 10) (.inr (0, 6))) (o + 11) (.inr (0, 6))) (o + 12) (.inr (0, 6))) o (.inl 2))
def hI2 (h : Hp) (o : Nat) : Hp := (sR (zr (sR (zr (sR (zr (sR (zr (sR (zr (sR (zr (sR (zr (sR (zr (sR (zr (sR (zr (sR (zr (sR (zr (sI (sI (sI (sI (sI h o 0 (0 : Int32)) o 1 (0 : Int32)) o 2 (0 : Int32)) o 3 (0 : Int32)) o 4 (0 : Int32)) (o + 1)) o 5 (some (o + 1))) (o + 2)) o 6 (some (o + 2))) (o + 3)) o 7 (some (o + 3))) (o + 4)) o 8 (some (o + 4))) (o + 5)) o 9 (some (o + 5))) (o + 6)) o 10 (some (o + 6))) (o + 7)) o 11 (some (o + 7))) (o + 8)) o 12 (some (o + 8))) (o + 9)) o 13 (some (o + 9))) (o + 10)) o 14 (some (o + 10))) (o + 11)) o 15 (some (o + 11))) (o + 12)) o 16 (some (o + 12)))
theorem kI2_o {K : Ly} {o : Nat} : kI2 K o o = some (.inl 2) := by simp [kI2, kS]
theorem kI2_old {K : Ly} {o a : Nat} (ha : a < o) : kI2 K o a = K a := by
  unfold kI2
  repeat (first | rw [kS, if_neg (by omega)] | rfl)
theorem st2_5 (h : Hp) (o : Nat) : (hI2 h o).2.2 o 5 = some (o + 1) := by
  simp [hI2, sI, sL, sR, zr]
theorem st2_6 (h : Hp) (o : Nat) : (hI2 h o).2.2 o 6 = some (o + 2) := by
  simp [hI2, sI, sL, sR, zr]
theorem st2_7 (h : Hp) (o : Nat) : (hI2 h o).2.2 o 7 = some (o + 3) := by
  simp [hI2, sI, sL, sR, zr]
theorem st2_8 (h : Hp) (o : Nat) : (hI2 h o).2.2 o 8 = some (o + 4) := by
  simp [hI2, sI, sL, sR, zr]
theorem st2_9 (h : Hp) (o : Nat) : (hI2 h o).2.2 o 9 = some (o + 5) := by
  simp [hI2, sI, sL, sR, zr]
theorem st2_10 (h : Hp) (o : Nat) : (hI2 h o).2.2 o 10 = some (o + 6) := by
  simp [hI2, sI, sL, sR, zr]
theorem st2_11 (h : Hp) (o : Nat) : (hI2 h o).2.2 o 11 = some (o + 7) := by
  simp [hI2, sI, sL, sR, zr]
theorem st2_12 (h : Hp) (o : Nat) : (hI2 h o).2.2 o 12 = some (o + 8) := by
  simp [hI2, sI, sL, sR, zr]
theorem st2_13 (h : Hp) (o : Nat) : (hI2 h o).2.2 o 13 = some (o + 9) := by
  simp [hI2, sI, sL, sR, zr]
theorem st2_14 (h : Hp) (o : Nat) : (hI2 h o).2.2 o 14 = some (o + 10) := by
  simp [hI2, sI, sL, sR, zr]
theorem st2_15 (h : Hp) (o : Nat) : (hI2 h o).2.2 o 15 = some (o + 11) := by
  simp [hI2, sI, sL, sR, zr]
theorem st2_16 (h : Hp) (o : Nat) : (hI2 h o).2.2 o 16 = some (o + 12) := by
  simp [hI2, sI, sL, sR, zr]
theorem hall2 (K : Ly) (h : Hp) (o j : Nat) (hj : j < 17) : tV (fc 14 j) (hI2 h o) o j = tV (fc 2 j) (hI2 h o) o j := by
  by_cases hs : fc 14 j = fc 2 j
  · rw [hs]
  · have hm : j = 5 ∨ j = 6 ∨ j = 7 ∨ j = 8 ∨ j = 9 ∨ j = 10 ∨ j = 11 ∨ j = 12 ∨ j = 13 ∨ j = 14 ∨ j = 15 ∨ j = 16 := (show ∀ j, j < 17 → ¬ fc 14 j = fc 2 j → (j = 5 ∨ j = 6 ∨ j = 7 ∨ j = 8 ∨ j = 9 ∨ j = 10 ∨ j = 11 ∨ j = 12 ∨ j = 13 ∨ j = 14 ∨ j = 15 ∨ j = 16) by decide +kernel) j hj hs
    rcases hm with rfl | rfl | rfl | rfl | rfl | rfl | rfl | rfl | rfl | rfl | rfl | rfl
    · show va_rf ((hI2 h o).2.2 o 5) = .ref (o + 1)
      rw [st2_5]; rfl
    · show va_rf ((hI2 h o).2.2 o 6) = .ref (o + 2)
      rw [st2_6]; rfl
    · show va_rf ((hI2 h o).2.2 o 7) = .ref (o + 3)
      rw [st2_7]; rfl
    · show va_rf ((hI2 h o).2.2 o 8) = .ref (o + 4)
      rw [st2_8]; rfl
    · show va_rf ((hI2 h o).2.2 o 9) = .ref (o + 5)
      rw [st2_9]; rfl
    · show va_rf ((hI2 h o).2.2 o 10) = .ref (o + 6)
      rw [st2_10]; rfl
    · show va_rf ((hI2 h o).2.2 o 11) = .ref (o + 7)
      rw [st2_11]; rfl
    · show va_rf ((hI2 h o).2.2 o 12) = .ref (o + 8)
      rw [st2_12]; rfl
    · show va_rf ((hI2 h o).2.2 o 13) = .ref (o + 9)
      rw [st2_13]; rfl
    · show va_rf ((hI2 h o).2.2 o 14) = .ref (o + 10)
      rw [st2_14]; rfl
    · show va_rf ((hI2 h o).2.2 o 15) = .ref (o + 11)
      rw [st2_15]; rfl
    · show va_rf ((hI2 h o).2.2 o 16) = .ref (o + 12)
      rw [st2_16]; rfl
set_option maxHeartbeats 4000000 in
set_option maxRecDepth 100000 in
theorem ci2 {sp : Sp} {K : Ly} {h : Hp} {o : Nat} (hk : K o = some (.inl 14)) : ConI sp y2_init prog_7_method_1_code 1 1 12 153 o (o + 1) K h (o + 13) (kI2 K o) (hI2 h o) := by
  refine ConI.of (by decide) rfl (by decide) (fun Γ X O Q => ?_)
  refine g_aload_n (n := 0) (sz := o + 1) X (by decide +kernel) 0 rfl ?_
  refine i_obj (idx := 3) (sz := o + 1) X (by decide +kernel) (in_c1 42 rfl rfl) ob_i ob_c (by decide) (Nat.le_of_ble_eq_true rfl) ?_
  refine g_aload_n (n := 0) (sz := o + 1) X (by decide +kernel) 0 rfl ?_
  refine g_iconst (n := 0) (x := (0 : Int32)) (sz := o + 1) X (by decide +kernel) (by decide) ?_
  obtain ⟨h1, eh1⟩ : ∃ q, q = sI h o 0 (0 : Int32) := ⟨_, rfl⟩
  refine g_putf (h' := h1) (ty := .int) (sz := o + 1) X (by decide +kernel) fl2_9r.1 (fun C T N h => by cases h; exact ⟨rfl, by decide +kernel⟩) rfl rfl hk (by rw [fl2_9r.2, eh1]; exact Wr.i) ?_
  refine g_aload_n (n := 0) (sz := o + 1) X (by decide +kernel) 0 rfl ?_
  refine g_iconst (n := 0) (x := (0 : Int32)) (sz := o + 1) X (by decide +kernel) (by decide) ?_
  obtain ⟨h2, eh2⟩ : ∃ q, q = sI h1 o 1 (0 : Int32) := ⟨_, rfl⟩
  refine g_putf (h' := h2) (ty := .int) (sz := o + 1) X (by decide +kernel) fl2_15r.1 (fun C T N h => by cases h; exact ⟨rfl, by decide +kernel⟩) rfl rfl hk (by rw [fl2_15r.2, eh2]; exact Wr.i) ?_
  refine g_aload_n (n := 0) (sz := o + 1) X (by decide +kernel) 0 rfl ?_
  refine g_iconst (n := 0) (x := (0 : Int32)) (sz := o + 1) X (by decide +kernel) (by decide) ?_
  obtain ⟨h3, eh3⟩ : ∃ q, q = sI h2 o 2 (0 : Int32) := ⟨_, rfl⟩
  refine g_putf (h' := h3) (ty := .int) (sz := o + 1) X (by decide +kernel) fl2_18r.1 (fun C T N h => by cases h; exact ⟨rfl, by decide +kernel⟩) rfl rfl hk (by rw [fl2_18r.2, eh3]; exact Wr.i) ?_
  refine g_aload_n (n := 0) (sz := o + 1) X (by decide +kernel) 0 rfl ?_
  refine g_iconst (n := 0) (x := (0 : Int32)) (sz := o + 1) X (by decide +kernel) (by decide) ?_
  obtain ⟨h4, eh4⟩ : ∃ q, q = sI h3 o 3 (0 : Int32) := ⟨_, rfl⟩
  refine g_putf (h' := h4) (ty := .int) (sz := o + 1) X (by decide +kernel) fl2_21r.1 (fun C T N h => by cases h; exact ⟨rfl, by decide +kernel⟩) rfl rfl hk (by rw [fl2_21r.2, eh4]; exact Wr.i) ?_
  refine g_aload_n (n := 0) (sz := o + 1) X (by decide +kernel) 0 rfl ?_
  refine g_iconst (n := 0) (x := (0 : Int32)) (sz := o + 1) X (by decide +kernel) (by decide) ?_
  obtain ⟨h5, eh5⟩ : ∃ q, q = sI h4 o 4 (0 : Int32) := ⟨_, rfl⟩
  refine g_putf (h' := h5) (ty := .int) (sz := o + 1) X (by decide +kernel) fl2_24r.1 (fun C T N h => by cases h; exact ⟨rfl, by decide +kernel⟩) rfl rfl hk (by rw [fl2_24r.2, eh5]; exact Wr.i) ?_
  refine g_aload_n (n := 0) (sz := o + 1) X (by decide +kernel) 0 rfl ?_
  refine g_bipush (n := 6) (x := (6 : Int32)) (sz := o + 1) X (by decide +kernel) (by decide) ?_
  refine i_newa (aty := .int) (t := 0) (n := 6) (sz := o + 1) X O (by decide +kernel) (by decide) rfl ac_0 rfl (by decide) (by decide) (by decide) (by decide) (by decide) ?_
  obtain ⟨K1, eK1⟩ : ∃ q, q = kS K (o + 1) (.inr (0, 6)) := ⟨_, rfl⟩
  rw [← eK1]
  obtain ⟨h6, eh6⟩ : ∃ q, q = zr h5 (o + 1) := ⟨_, rfl⟩
  rw [← eh6]
  have p1_o : K1 (o) = some (.inl 14) := by rw [eK1]; exact kS_ne hk (by omega)
  have q1 : K1 (o + 1) = some (.inr (0, 6)) := by rw [eK1]; exact kS_eq
  obtain ⟨h7, eh7⟩ : ∃ q, q = sR h6 o 5 (some (o + 1)) := ⟨_, rfl⟩
  refine i_putF (h' := h7) (ty := .array (.int)) (sz := o + 2) X O (by decide +kernel) fl2_27r.1 (fun C T N h => by cases h; exact ⟨rfl, by decide +kernel⟩) (fun C T N h => by cases h; rfl) rfl rfl p1_o (by rw [fl2_27r.2, eh7]; exact Wr.r (x := some (o + 1))) ?_
  refine g_aload_n (n := 0) (sz := o + 2) X (by decide +kernel) 0 rfl ?_
  refine g_bipush (n := 15) (x := (15 : Int32)) (sz := o + 2) X (by decide +kernel) (by decide) ?_
  refine i_newa (aty := .int) (t := 0) (n := 15) (sz := o + 2) X O (by decide +kernel) (by decide) rfl ac_0 rfl (by decide) (by decide) (by decide) (by decide) (by decide) ?_
  obtain ⟨K2, eK2⟩ : ∃ q, q = kS K1 (o + 2) (.inr (0, 15)) := ⟨_, rfl⟩
  rw [← eK2]
  obtain ⟨h8, eh8⟩ : ∃ q, q = zr h7 (o + 2) := ⟨_, rfl⟩
  rw [← eh8]
  have p2_o : K2 (o) = some (.inl 14) := by rw [eK2]; exact kS_ne p1_o (by omega)
  have p2_o1 : K2 (o + 1) = some (.inr (0, 6)) := by rw [eK2]; exact kS_ne q1 (by omega)
  have q2 : K2 (o + 2) = some (.inr (0, 15)) := by rw [eK2]; exact kS_eq
  obtain ⟨h9, eh9⟩ : ∃ q, q = sR h8 o 6 (some (o + 2)) := ⟨_, rfl⟩
  refine i_putF (h' := h9) (ty := .array (.int)) (sz := o + 3) X O (by decide +kernel) fl2_31r.1 (fun C T N h => by cases h; exact ⟨rfl, by decide +kernel⟩) (fun C T N h => by cases h; rfl) rfl rfl p2_o (by rw [fl2_31r.2, eh9]; exact Wr.r (x := some (o + 2))) ?_
  refine g_aload_n (n := 0) (sz := o + 3) X (by decide +kernel) 0 rfl ?_
  refine g_bipush (n := 15) (x := (15 : Int32)) (sz := o + 3) X (by decide +kernel) (by decide) ?_
  refine i_newa (aty := .int) (t := 0) (n := 15) (sz := o + 3) X O (by decide +kernel) (by decide) rfl ac_0 rfl (by decide) (by decide) (by decide) (by decide) (by decide) ?_
  obtain ⟨K3, eK3⟩ : ∃ q, q = kS K2 (o + 3) (.inr (0, 15)) := ⟨_, rfl⟩
  rw [← eK3]
  obtain ⟨h10, eh10⟩ : ∃ q, q = zr h9 (o + 3) := ⟨_, rfl⟩
  rw [← eh10]
  have p3_o : K3 (o) = some (.inl 14) := by rw [eK3]; exact kS_ne p2_o (by omega)
  have p3_o1 : K3 (o + 1) = some (.inr (0, 6)) := by rw [eK3]; exact kS_ne p2_o1 (by omega)
  have p3_o2 : K3 (o + 2) = some (.inr (0, 15)) := by rw [eK3]; exact kS_ne q2 (by omega)
  have q3 : K3 (o + 3) = some (.inr (0, 15)) := by rw [eK3]; exact kS_eq
  obtain ⟨h11, eh11⟩ : ∃ q, q = sR h10 o 7 (some (o + 3)) := ⟨_, rfl⟩
  refine i_putF (h' := h11) (ty := .array (.int)) (sz := o + 4) X O (by decide +kernel) fl2_34r.1 (fun C T N h => by cases h; exact ⟨rfl, by decide +kernel⟩) (fun C T N h => by cases h; rfl) rfl rfl p3_o (by rw [fl2_34r.2, eh11]; exact Wr.r (x := some (o + 3))) ?_
  refine g_aload_n (n := 0) (sz := o + 4) X (by decide +kernel) 0 rfl ?_
  refine g_bipush (n := 15) (x := (15 : Int32)) (sz := o + 4) X (by decide +kernel) (by decide) ?_
  refine i_newa (aty := .int) (t := 0) (n := 15) (sz := o + 4) X O (by decide +kernel) (by decide) rfl ac_0 rfl (by decide) (by decide) (by decide) (by decide) (by decide) ?_
  obtain ⟨K4, eK4⟩ : ∃ q, q = kS K3 (o + 4) (.inr (0, 15)) := ⟨_, rfl⟩
  rw [← eK4]
  obtain ⟨h12, eh12⟩ : ∃ q, q = zr h11 (o + 4) := ⟨_, rfl⟩
  rw [← eh12]
  have p4_o : K4 (o) = some (.inl 14) := by rw [eK4]; exact kS_ne p3_o (by omega)
  have p4_o1 : K4 (o + 1) = some (.inr (0, 6)) := by rw [eK4]; exact kS_ne p3_o1 (by omega)
  have p4_o2 : K4 (o + 2) = some (.inr (0, 15)) := by rw [eK4]; exact kS_ne p3_o2 (by omega)
  have p4_o3 : K4 (o + 3) = some (.inr (0, 15)) := by rw [eK4]; exact kS_ne q3 (by omega)
  have q4 : K4 (o + 4) = some (.inr (0, 15)) := by rw [eK4]; exact kS_eq
  obtain ⟨h13, eh13⟩ : ∃ q, q = sR h12 o 8 (some (o + 4)) := ⟨_, rfl⟩
  refine i_putF (h' := h13) (ty := .array (.int)) (sz := o + 5) X O (by decide +kernel) fl2_37r.1 (fun C T N h => by cases h; exact ⟨rfl, by decide +kernel⟩) (fun C T N h => by cases h; rfl) rfl rfl p4_o (by rw [fl2_37r.2, eh13]; exact Wr.r (x := some (o + 4))) ?_
  refine g_aload_n (n := 0) (sz := o + 5) X (by decide +kernel) 0 rfl ?_
  refine g_bipush (n := 36) (x := (36 : Int32)) (sz := o + 5) X (by decide +kernel) (by decide) ?_
  refine i_newa (aty := .int) (t := 0) (n := 36) (sz := o + 5) X O (by decide +kernel) (by decide) rfl ac_0 rfl (by decide) (by decide) (by decide) (by decide) (by decide) ?_
  obtain ⟨K5, eK5⟩ : ∃ q, q = kS K4 (o + 5) (.inr (0, 36)) := ⟨_, rfl⟩
  rw [← eK5]
  obtain ⟨h14, eh14⟩ : ∃ q, q = zr h13 (o + 5) := ⟨_, rfl⟩
  rw [← eh14]
  have p5_o : K5 (o) = some (.inl 14) := by rw [eK5]; exact kS_ne p4_o (by omega)
  have p5_o1 : K5 (o + 1) = some (.inr (0, 6)) := by rw [eK5]; exact kS_ne p4_o1 (by omega)
  have p5_o2 : K5 (o + 2) = some (.inr (0, 15)) := by rw [eK5]; exact kS_ne p4_o2 (by omega)
  have p5_o3 : K5 (o + 3) = some (.inr (0, 15)) := by rw [eK5]; exact kS_ne p4_o3 (by omega)
  have p5_o4 : K5 (o + 4) = some (.inr (0, 15)) := by rw [eK5]; exact kS_ne q4 (by omega)
  have q5 : K5 (o + 5) = some (.inr (0, 36)) := by rw [eK5]; exact kS_eq
  obtain ⟨h15, eh15⟩ : ∃ q, q = sR h14 o 9 (some (o + 5)) := ⟨_, rfl⟩
  refine i_putF (h' := h15) (ty := .array (.int)) (sz := o + 6) X O (by decide +kernel) fl2_40r.1 (fun C T N h => by cases h; exact ⟨rfl, by decide +kernel⟩) (fun C T N h => by cases h; rfl) rfl rfl p5_o (by rw [fl2_40r.2, eh15]; exact Wr.r (x := some (o + 5))) ?_
  refine g_aload_n (n := 0) (sz := o + 6) X (by decide +kernel) 0 rfl ?_
  refine g_bipush (n := 12) (x := (12 : Int32)) (sz := o + 6) X (by decide +kernel) (by decide) ?_
  refine i_newa (aty := .int) (t := 0) (n := 12) (sz := o + 6) X O (by decide +kernel) (by decide) rfl ac_0 rfl (by decide) (by decide) (by decide) (by decide) (by decide) ?_
  obtain ⟨K6, eK6⟩ : ∃ q, q = kS K5 (o + 6) (.inr (0, 12)) := ⟨_, rfl⟩
  rw [← eK6]
  obtain ⟨h16, eh16⟩ : ∃ q, q = zr h15 (o + 6) := ⟨_, rfl⟩
  rw [← eh16]
  have p6_o : K6 (o) = some (.inl 14) := by rw [eK6]; exact kS_ne p5_o (by omega)
  have p6_o1 : K6 (o + 1) = some (.inr (0, 6)) := by rw [eK6]; exact kS_ne p5_o1 (by omega)
  have p6_o2 : K6 (o + 2) = some (.inr (0, 15)) := by rw [eK6]; exact kS_ne p5_o2 (by omega)
  have p6_o3 : K6 (o + 3) = some (.inr (0, 15)) := by rw [eK6]; exact kS_ne p5_o3 (by omega)
  have p6_o4 : K6 (o + 4) = some (.inr (0, 15)) := by rw [eK6]; exact kS_ne p5_o4 (by omega)
  have p6_o5 : K6 (o + 5) = some (.inr (0, 36)) := by rw [eK6]; exact kS_ne q5 (by omega)
  have q6 : K6 (o + 6) = some (.inr (0, 12)) := by rw [eK6]; exact kS_eq
  obtain ⟨h17, eh17⟩ : ∃ q, q = sR h16 o 10 (some (o + 6)) := ⟨_, rfl⟩
  refine i_putF (h' := h17) (ty := .array (.int)) (sz := o + 7) X O (by decide +kernel) fl2_43r.1 (fun C T N h => by cases h; exact ⟨rfl, by decide +kernel⟩) (fun C T N h => by cases h; rfl) rfl rfl p6_o (by rw [fl2_43r.2, eh17]; exact Wr.r (x := some (o + 6))) ?_
  refine g_aload_n (n := 0) (sz := o + 7) X (by decide +kernel) 0 rfl ?_
  refine g_bipush (n := 12) (x := (12 : Int32)) (sz := o + 7) X (by decide +kernel) (by decide) ?_
  refine i_newa (aty := .int) (t := 0) (n := 12) (sz := o + 7) X O (by decide +kernel) (by decide) rfl ac_0 rfl (by decide) (by decide) (by decide) (by decide) (by decide) ?_
  obtain ⟨K7, eK7⟩ : ∃ q, q = kS K6 (o + 7) (.inr (0, 12)) := ⟨_, rfl⟩
  rw [← eK7]
  obtain ⟨h18, eh18⟩ : ∃ q, q = zr h17 (o + 7) := ⟨_, rfl⟩
  rw [← eh18]
  have p7_o : K7 (o) = some (.inl 14) := by rw [eK7]; exact kS_ne p6_o (by omega)
  have p7_o1 : K7 (o + 1) = some (.inr (0, 6)) := by rw [eK7]; exact kS_ne p6_o1 (by omega)
  have p7_o2 : K7 (o + 2) = some (.inr (0, 15)) := by rw [eK7]; exact kS_ne p6_o2 (by omega)
  have p7_o3 : K7 (o + 3) = some (.inr (0, 15)) := by rw [eK7]; exact kS_ne p6_o3 (by omega)
  have p7_o4 : K7 (o + 4) = some (.inr (0, 15)) := by rw [eK7]; exact kS_ne p6_o4 (by omega)
  have p7_o5 : K7 (o + 5) = some (.inr (0, 36)) := by rw [eK7]; exact kS_ne p6_o5 (by omega)
  have p7_o6 : K7 (o + 6) = some (.inr (0, 12)) := by rw [eK7]; exact kS_ne q6 (by omega)
  have q7 : K7 (o + 7) = some (.inr (0, 12)) := by rw [eK7]; exact kS_eq
  obtain ⟨h19, eh19⟩ : ∃ q, q = sR h18 o 11 (some (o + 7)) := ⟨_, rfl⟩
  refine i_putF (h' := h19) (ty := .array (.int)) (sz := o + 8) X O (by decide +kernel) fl2_46r.1 (fun C T N h => by cases h; exact ⟨rfl, by decide +kernel⟩) (fun C T N h => by cases h; rfl) rfl rfl p7_o (by rw [fl2_46r.2, eh19]; exact Wr.r (x := some (o + 7))) ?_
  refine g_aload_n (n := 0) (sz := o + 8) X (by decide +kernel) 0 rfl ?_
  refine g_bipush (n := 12) (x := (12 : Int32)) (sz := o + 8) X (by decide +kernel) (by decide) ?_
  refine i_newa (aty := .int) (t := 0) (n := 12) (sz := o + 8) X O (by decide +kernel) (by decide) rfl ac_0 rfl (by decide) (by decide) (by decide) (by decide) (by decide) ?_
  obtain ⟨K8, eK8⟩ : ∃ q, q = kS K7 (o + 8) (.inr (0, 12)) := ⟨_, rfl⟩
  rw [← eK8]
  obtain ⟨h20, eh20⟩ : ∃ q, q = zr h19 (o + 8) := ⟨_, rfl⟩
  rw [← eh20]
  have p8_o : K8 (o) = some (.inl 14) := by rw [eK8]; exact kS_ne p7_o (by omega)
  have p8_o1 : K8 (o + 1) = some (.inr (0, 6)) := by rw [eK8]; exact kS_ne p7_o1 (by omega)
  have p8_o2 : K8 (o + 2) = some (.inr (0, 15)) := by rw [eK8]; exact kS_ne p7_o2 (by omega)
  have p8_o3 : K8 (o + 3) = some (.inr (0, 15)) := by rw [eK8]; exact kS_ne p7_o3 (by omega)
  have p8_o4 : K8 (o + 4) = some (.inr (0, 15)) := by rw [eK8]; exact kS_ne p7_o4 (by omega)
  have p8_o5 : K8 (o + 5) = some (.inr (0, 36)) := by rw [eK8]; exact kS_ne p7_o5 (by omega)
  have p8_o6 : K8 (o + 6) = some (.inr (0, 12)) := by rw [eK8]; exact kS_ne p7_o6 (by omega)
  have p8_o7 : K8 (o + 7) = some (.inr (0, 12)) := by rw [eK8]; exact kS_ne q7 (by omega)
  have q8 : K8 (o + 8) = some (.inr (0, 12)) := by rw [eK8]; exact kS_eq
  obtain ⟨h21, eh21⟩ : ∃ q, q = sR h20 o 12 (some (o + 8)) := ⟨_, rfl⟩
  refine i_putF (h' := h21) (ty := .array (.int)) (sz := o + 9) X O (by decide +kernel) fl2_49r.1 (fun C T N h => by cases h; exact ⟨rfl, by decide +kernel⟩) (fun C T N h => by cases h; rfl) rfl rfl p8_o (by rw [fl2_49r.2, eh21]; exact Wr.r (x := some (o + 8))) ?_
  refine g_aload_n (n := 0) (sz := o + 9) X (by decide +kernel) 0 rfl ?_
  refine g_bipush (n := 12) (x := (12 : Int32)) (sz := o + 9) X (by decide +kernel) (by decide) ?_
  refine i_newa (aty := .int) (t := 0) (n := 12) (sz := o + 9) X O (by decide +kernel) (by decide) rfl ac_0 rfl (by decide) (by decide) (by decide) (by decide) (by decide) ?_
  obtain ⟨K9, eK9⟩ : ∃ q, q = kS K8 (o + 9) (.inr (0, 12)) := ⟨_, rfl⟩
  rw [← eK9]
  obtain ⟨h22, eh22⟩ : ∃ q, q = zr h21 (o + 9) := ⟨_, rfl⟩
  rw [← eh22]
  have p9_o : K9 (o) = some (.inl 14) := by rw [eK9]; exact kS_ne p8_o (by omega)
  have p9_o1 : K9 (o + 1) = some (.inr (0, 6)) := by rw [eK9]; exact kS_ne p8_o1 (by omega)
  have p9_o2 : K9 (o + 2) = some (.inr (0, 15)) := by rw [eK9]; exact kS_ne p8_o2 (by omega)
  have p9_o3 : K9 (o + 3) = some (.inr (0, 15)) := by rw [eK9]; exact kS_ne p8_o3 (by omega)
  have p9_o4 : K9 (o + 4) = some (.inr (0, 15)) := by rw [eK9]; exact kS_ne p8_o4 (by omega)
  have p9_o5 : K9 (o + 5) = some (.inr (0, 36)) := by rw [eK9]; exact kS_ne p8_o5 (by omega)
  have p9_o6 : K9 (o + 6) = some (.inr (0, 12)) := by rw [eK9]; exact kS_ne p8_o6 (by omega)
  have p9_o7 : K9 (o + 7) = some (.inr (0, 12)) := by rw [eK9]; exact kS_ne p8_o7 (by omega)
  have p9_o8 : K9 (o + 8) = some (.inr (0, 12)) := by rw [eK9]; exact kS_ne q8 (by omega)
  have q9 : K9 (o + 9) = some (.inr (0, 12)) := by rw [eK9]; exact kS_eq
  obtain ⟨h23, eh23⟩ : ∃ q, q = sR h22 o 13 (some (o + 9)) := ⟨_, rfl⟩
  refine i_putF (h' := h23) (ty := .array (.int)) (sz := o + 10) X O (by decide +kernel) fl2_52r.1 (fun C T N h => by cases h; exact ⟨rfl, by decide +kernel⟩) (fun C T N h => by cases h; rfl) rfl rfl p9_o (by rw [fl2_52r.2, eh23]; exact Wr.r (x := some (o + 9))) ?_
  refine g_aload_n (n := 0) (sz := o + 10) X (by decide +kernel) 0 rfl ?_
  refine g_bipush (n := 6) (x := (6 : Int32)) (sz := o + 10) X (by decide +kernel) (by decide) ?_
  refine i_newa (aty := .int) (t := 0) (n := 6) (sz := o + 10) X O (by decide +kernel) (by decide) rfl ac_0 rfl (by decide) (by decide) (by decide) (by decide) (by decide) ?_
  obtain ⟨K10, eK10⟩ : ∃ q, q = kS K9 (o + 10) (.inr (0, 6)) := ⟨_, rfl⟩
  rw [← eK10]
  obtain ⟨h24, eh24⟩ : ∃ q, q = zr h23 (o + 10) := ⟨_, rfl⟩
  rw [← eh24]
  have p10_o : K10 (o) = some (.inl 14) := by rw [eK10]; exact kS_ne p9_o (by omega)
  have p10_o1 : K10 (o + 1) = some (.inr (0, 6)) := by rw [eK10]; exact kS_ne p9_o1 (by omega)
  have p10_o2 : K10 (o + 2) = some (.inr (0, 15)) := by rw [eK10]; exact kS_ne p9_o2 (by omega)
  have p10_o3 : K10 (o + 3) = some (.inr (0, 15)) := by rw [eK10]; exact kS_ne p9_o3 (by omega)
  have p10_o4 : K10 (o + 4) = some (.inr (0, 15)) := by rw [eK10]; exact kS_ne p9_o4 (by omega)
  have p10_o5 : K10 (o + 5) = some (.inr (0, 36)) := by rw [eK10]; exact kS_ne p9_o5 (by omega)
  have p10_o6 : K10 (o + 6) = some (.inr (0, 12)) := by rw [eK10]; exact kS_ne p9_o6 (by omega)
  have p10_o7 : K10 (o + 7) = some (.inr (0, 12)) := by rw [eK10]; exact kS_ne p9_o7 (by omega)
  have p10_o8 : K10 (o + 8) = some (.inr (0, 12)) := by rw [eK10]; exact kS_ne p9_o8 (by omega)
  have p10_o9 : K10 (o + 9) = some (.inr (0, 12)) := by rw [eK10]; exact kS_ne q9 (by omega)
  have q10 : K10 (o + 10) = some (.inr (0, 6)) := by rw [eK10]; exact kS_eq
  obtain ⟨h25, eh25⟩ : ∃ q, q = sR h24 o 14 (some (o + 10)) := ⟨_, rfl⟩
  refine i_putF (h' := h25) (ty := .array (.int)) (sz := o + 11) X O (by decide +kernel) fl2_55r.1 (fun C T N h => by cases h; exact ⟨rfl, by decide +kernel⟩) (fun C T N h => by cases h; rfl) rfl rfl p10_o (by rw [fl2_55r.2, eh25]; exact Wr.r (x := some (o + 10))) ?_
  refine g_aload_n (n := 0) (sz := o + 11) X (by decide +kernel) 0 rfl ?_
  refine g_bipush (n := 6) (x := (6 : Int32)) (sz := o + 11) X (by decide +kernel) (by decide) ?_
  refine i_newa (aty := .int) (t := 0) (n := 6) (sz := o + 11) X O (by decide +kernel) (by decide) rfl ac_0 rfl (by decide) (by decide) (by decide) (by decide) (by decide) ?_
  obtain ⟨K11, eK11⟩ : ∃ q, q = kS K10 (o + 11) (.inr (0, 6)) := ⟨_, rfl⟩
  rw [← eK11]
  obtain ⟨h26, eh26⟩ : ∃ q, q = zr h25 (o + 11) := ⟨_, rfl⟩
  rw [← eh26]
  have p11_o : K11 (o) = some (.inl 14) := by rw [eK11]; exact kS_ne p10_o (by omega)
  have p11_o1 : K11 (o + 1) = some (.inr (0, 6)) := by rw [eK11]; exact kS_ne p10_o1 (by omega)
  have p11_o2 : K11 (o + 2) = some (.inr (0, 15)) := by rw [eK11]; exact kS_ne p10_o2 (by omega)
  have p11_o3 : K11 (o + 3) = some (.inr (0, 15)) := by rw [eK11]; exact kS_ne p10_o3 (by omega)
  have p11_o4 : K11 (o + 4) = some (.inr (0, 15)) := by rw [eK11]; exact kS_ne p10_o4 (by omega)
  have p11_o5 : K11 (o + 5) = some (.inr (0, 36)) := by rw [eK11]; exact kS_ne p10_o5 (by omega)
  have p11_o6 : K11 (o + 6) = some (.inr (0, 12)) := by rw [eK11]; exact kS_ne p10_o6 (by omega)
  have p11_o7 : K11 (o + 7) = some (.inr (0, 12)) := by rw [eK11]; exact kS_ne p10_o7 (by omega)
  have p11_o8 : K11 (o + 8) = some (.inr (0, 12)) := by rw [eK11]; exact kS_ne p10_o8 (by omega)
  have p11_o9 : K11 (o + 9) = some (.inr (0, 12)) := by rw [eK11]; exact kS_ne p10_o9 (by omega)
  have p11_o10 : K11 (o + 10) = some (.inr (0, 6)) := by rw [eK11]; exact kS_ne q10 (by omega)
  have q11 : K11 (o + 11) = some (.inr (0, 6)) := by rw [eK11]; exact kS_eq
  obtain ⟨h27, eh27⟩ : ∃ q, q = sR h26 o 15 (some (o + 11)) := ⟨_, rfl⟩
  refine i_putF (h' := h27) (ty := .array (.int)) (sz := o + 12) X O (by decide +kernel) fl2_58r.1 (fun C T N h => by cases h; exact ⟨rfl, by decide +kernel⟩) (fun C T N h => by cases h; rfl) rfl rfl p11_o (by rw [fl2_58r.2, eh27]; exact Wr.r (x := some (o + 11))) ?_
  refine g_aload_n (n := 0) (sz := o + 12) X (by decide +kernel) 0 rfl ?_
  refine g_bipush (n := 6) (x := (6 : Int32)) (sz := o + 12) X (by decide +kernel) (by decide) ?_
  refine i_newa (aty := .int) (t := 0) (n := 6) (sz := o + 12) X O (by decide +kernel) (by decide) rfl ac_0 rfl (by decide) (by decide) (by decide) (by decide) (by decide) ?_
  obtain ⟨K12, eK12⟩ : ∃ q, q = kS K11 (o + 12) (.inr (0, 6)) := ⟨_, rfl⟩
  rw [← eK12]
  obtain ⟨h28, eh28⟩ : ∃ q, q = zr h27 (o + 12) := ⟨_, rfl⟩
  rw [← eh28]
  have p12_o : K12 (o) = some (.inl 14) := by rw [eK12]; exact kS_ne p11_o (by omega)
  have p12_o1 : K12 (o + 1) = some (.inr (0, 6)) := by rw [eK12]; exact kS_ne p11_o1 (by omega)
  have p12_o2 : K12 (o + 2) = some (.inr (0, 15)) := by rw [eK12]; exact kS_ne p11_o2 (by omega)
  have p12_o3 : K12 (o + 3) = some (.inr (0, 15)) := by rw [eK12]; exact kS_ne p11_o3 (by omega)
  have p12_o4 : K12 (o + 4) = some (.inr (0, 15)) := by rw [eK12]; exact kS_ne p11_o4 (by omega)
  have p12_o5 : K12 (o + 5) = some (.inr (0, 36)) := by rw [eK12]; exact kS_ne p11_o5 (by omega)
  have p12_o6 : K12 (o + 6) = some (.inr (0, 12)) := by rw [eK12]; exact kS_ne p11_o6 (by omega)
  have p12_o7 : K12 (o + 7) = some (.inr (0, 12)) := by rw [eK12]; exact kS_ne p11_o7 (by omega)
  have p12_o8 : K12 (o + 8) = some (.inr (0, 12)) := by rw [eK12]; exact kS_ne p11_o8 (by omega)
  have p12_o9 : K12 (o + 9) = some (.inr (0, 12)) := by rw [eK12]; exact kS_ne p11_o9 (by omega)
  have p12_o10 : K12 (o + 10) = some (.inr (0, 6)) := by rw [eK12]; exact kS_ne p11_o10 (by omega)
  have p12_o11 : K12 (o + 11) = some (.inr (0, 6)) := by rw [eK12]; exact kS_ne q11 (by omega)
  have q12 : K12 (o + 12) = some (.inr (0, 6)) := by rw [eK12]; exact kS_eq
  obtain ⟨h29, eh29⟩ : ∃ q, q = sR h28 o 16 (some (o + 12)) := ⟨_, rfl⟩
  refine i_putF (h' := h29) (ty := .array (.int)) (sz := o + 13) X O (by decide +kernel) fl2_61r.1 (fun C T N h => by cases h; exact ⟨rfl, by decide +kernel⟩) (fun C T N h => by cases h; rfl) rfl rfl p12_o (by rw [fl2_61r.2, eh29]; exact Wr.r (x := some (o + 12))) ?_
  refine i_fin (ci := 2) (sz := o + 13) X p12_o rfl rfl ?_ ?_
  · intro j hj
    subst eh29
    subst eh28
    subst eK12
    subst eh27
    subst eh26
    subst eK11
    subst eh25
    subst eh24
    subst eK10
    subst eh23
    subst eh22
    subst eK9
    subst eh21
    subst eh20
    subst eK8
    subst eh19
    subst eh18
    subst eK7
    subst eh17
    subst eh16
    subst eK6
    subst eh15
    subst eh14
    subst eK5
    subst eh13
    subst eh12
    subst eK4
    subst eh11
    subst eh10
    subst eK3
    subst eh9
    subst eh8
    subst eK2
    subst eh7
    subst eh6
    subst eK1
    subst eh5
    subst eh4
    subst eh3
    subst eh2
    subst eh1
    exact hall2 K h o j hj
  · subst eh29
    subst eh28
    subst eK12
    subst eh27
    subst eh26
    subst eK11
    subst eh25
    subst eh24
    subst eK10
    subst eh23
    subst eh22
    subst eK9
    subst eh21
    subst eh20
    subst eK8
    subst eh19
    subst eh18
    subst eK7
    subst eh17
    subst eh16
    subst eK6
    subst eh15
    subst eh14
    subst eK5
    subst eh13
    subst eh12
    subst eK4
    subst eh11
    subst eh10
    subst eK3
    subst eh9
    subst eh8
    subst eK2
    subst eh7
    subst eh6
    subst eK1
    subst eh5
    subst eh4
    subst eh3
    subst eh2
    subst eh1
    exact i_ret (sz := o + 13) X O (by decide +kernel) (by decide) (by decide)
def kI3 (K : Ly) (o : Nat) : Ly := (kS (kS (kS (kS K (o + 1) (.inr (0, 40))) (o + 2) (.inr (0, 40))) (o + 3) (.inr (0, 40))) o (.inl 3))
def hI3 (h : Hp) (o : Nat) : Hp := (sR (zr (sR (zr (sR (zr (sI h o 0 (0 : Int32)) (o + 1)) o 1 (some (o + 1))) (o + 2)) o 2 (some (o + 2))) (o + 3)) o 3 (some (o + 3)))
theorem kI3_o {K : Ly} {o : Nat} : kI3 K o o = some (.inl 3) := by simp [kI3, kS]
theorem kI3_old {K : Ly} {o a : Nat} (ha : a < o) : kI3 K o a = K a := by
  unfold kI3
  repeat (first | rw [kS, if_neg (by omega)] | rfl)
theorem st3_1 (h : Hp) (o : Nat) : (hI3 h o).2.2 o 1 = some (o + 1) := by
  simp [hI3, sI, sL, sR, zr]
theorem st3_2 (h : Hp) (o : Nat) : (hI3 h o).2.2 o 2 = some (o + 2) := by
  simp [hI3, sI, sL, sR, zr]
theorem st3_3 (h : Hp) (o : Nat) : (hI3 h o).2.2 o 3 = some (o + 3) := by
  simp [hI3, sI, sL, sR, zr]
theorem hall3 (K : Ly) (h : Hp) (o j : Nat) (hj : j < 4) : tV (fc 15 j) (hI3 h o) o j = tV (fc 3 j) (hI3 h o) o j := by
  by_cases hs : fc 15 j = fc 3 j
  · rw [hs]
  · have hm : j = 1 ∨ j = 2 ∨ j = 3 := (show ∀ j, j < 4 → ¬ fc 15 j = fc 3 j → (j = 1 ∨ j = 2 ∨ j = 3) by decide +kernel) j hj hs
    rcases hm with rfl | rfl | rfl
    · show va_rf ((hI3 h o).2.2 o 1) = .ref (o + 1)
      rw [st3_1]; rfl
    · show va_rf ((hI3 h o).2.2 o 2) = .ref (o + 2)
      rw [st3_2]; rfl
    · show va_rf ((hI3 h o).2.2 o 3) = .ref (o + 3)
      rw [st3_3]; rfl
set_option maxHeartbeats 4000000 in
set_option maxRecDepth 100000 in
theorem ci3 {sp : Sp} {K : Ly} {h : Hp} {o : Nat} (hk : K o = some (.inl 15)) : ConI sp y3_init prog_9_method_1_code 1 1 3 120 o (o + 1) K h (o + 4) (kI3 K o) (hI3 h o) := by
  refine ConI.of (by decide) rfl (by decide) (fun Γ X O Q => ?_)
  refine g_aload_n (n := 0) (sz := o + 1) X (by decide +kernel) 0 rfl ?_
  refine i_obj (idx := 3) (sz := o + 1) X (by decide +kernel) (in_c1 131 rfl rfl) ob_i ob_c (by decide) (Nat.le_of_ble_eq_true rfl) ?_
  refine g_aload_n (n := 0) (sz := o + 1) X (by decide +kernel) 0 rfl ?_
  refine g_iconst (n := 0) (x := (0 : Int32)) (sz := o + 1) X (by decide +kernel) (by decide) ?_
  obtain ⟨h1, eh1⟩ : ∃ q, q = sI h o 0 (0 : Int32) := ⟨_, rfl⟩
  refine g_putf (h' := h1) (ty := .int) (sz := o + 1) X (by decide +kernel) fl3_9r.1 (fun C T N h => by cases h; exact ⟨rfl, by decide +kernel⟩) rfl rfl hk (by rw [fl3_9r.2, eh1]; exact Wr.i) ?_
  refine g_aload_n (n := 0) (sz := o + 1) X (by decide +kernel) 0 rfl ?_
  refine g_bipush (n := 40) (x := (40 : Int32)) (sz := o + 1) X (by decide +kernel) (by decide) ?_
  refine i_newa (aty := .int) (t := 0) (n := 40) (sz := o + 1) X O (by decide +kernel) (by decide) rfl ac_0 rfl (by decide) (by decide) (by decide) (by decide) (by decide) ?_
  obtain ⟨K1, eK1⟩ : ∃ q, q = kS K (o + 1) (.inr (0, 40)) := ⟨_, rfl⟩
  rw [← eK1]
  obtain ⟨h2, eh2⟩ : ∃ q, q = zr h1 (o + 1) := ⟨_, rfl⟩
  rw [← eh2]
  have p1_o : K1 (o) = some (.inl 15) := by rw [eK1]; exact kS_ne hk (by omega)
  have q1 : K1 (o + 1) = some (.inr (0, 40)) := by rw [eK1]; exact kS_eq
  obtain ⟨h3, eh3⟩ : ∃ q, q = sR h2 o 1 (some (o + 1)) := ⟨_, rfl⟩
  refine i_putF (h' := h3) (ty := .array (.int)) (sz := o + 2) X O (by decide +kernel) fl3_15r.1 (fun C T N h => by cases h; exact ⟨rfl, by decide +kernel⟩) (fun C T N h => by cases h; rfl) rfl rfl p1_o (by rw [fl3_15r.2, eh3]; exact Wr.r (x := some (o + 1))) ?_
  refine g_aload_n (n := 0) (sz := o + 2) X (by decide +kernel) 0 rfl ?_
  refine g_bipush (n := 40) (x := (40 : Int32)) (sz := o + 2) X (by decide +kernel) (by decide) ?_
  refine i_newa (aty := .int) (t := 0) (n := 40) (sz := o + 2) X O (by decide +kernel) (by decide) rfl ac_0 rfl (by decide) (by decide) (by decide) (by decide) (by decide) ?_
  obtain ⟨K2, eK2⟩ : ∃ q, q = kS K1 (o + 2) (.inr (0, 40)) := ⟨_, rfl⟩
  rw [← eK2]
  obtain ⟨h4, eh4⟩ : ∃ q, q = zr h3 (o + 2) := ⟨_, rfl⟩
  rw [← eh4]
  have p2_o : K2 (o) = some (.inl 15) := by rw [eK2]; exact kS_ne p1_o (by omega)
  have p2_o1 : K2 (o + 1) = some (.inr (0, 40)) := by rw [eK2]; exact kS_ne q1 (by omega)
  have q2 : K2 (o + 2) = some (.inr (0, 40)) := by rw [eK2]; exact kS_eq
  obtain ⟨h5, eh5⟩ : ∃ q, q = sR h4 o 2 (some (o + 2)) := ⟨_, rfl⟩
  refine i_putF (h' := h5) (ty := .array (.int)) (sz := o + 3) X O (by decide +kernel) fl3_19r.1 (fun C T N h => by cases h; exact ⟨rfl, by decide +kernel⟩) (fun C T N h => by cases h; rfl) rfl rfl p2_o (by rw [fl3_19r.2, eh5]; exact Wr.r (x := some (o + 2))) ?_
  refine g_aload_n (n := 0) (sz := o + 3) X (by decide +kernel) 0 rfl ?_
  refine g_bipush (n := 40) (x := (40 : Int32)) (sz := o + 3) X (by decide +kernel) (by decide) ?_
  refine i_newa (aty := .int) (t := 0) (n := 40) (sz := o + 3) X O (by decide +kernel) (by decide) rfl ac_0 rfl (by decide) (by decide) (by decide) (by decide) (by decide) ?_
  obtain ⟨K3, eK3⟩ : ∃ q, q = kS K2 (o + 3) (.inr (0, 40)) := ⟨_, rfl⟩
  rw [← eK3]
  obtain ⟨h6, eh6⟩ : ∃ q, q = zr h5 (o + 3) := ⟨_, rfl⟩
  rw [← eh6]
  have p3_o : K3 (o) = some (.inl 15) := by rw [eK3]; exact kS_ne p2_o (by omega)
  have p3_o1 : K3 (o + 1) = some (.inr (0, 40)) := by rw [eK3]; exact kS_ne p2_o1 (by omega)
  have p3_o2 : K3 (o + 2) = some (.inr (0, 40)) := by rw [eK3]; exact kS_ne q2 (by omega)
  have q3 : K3 (o + 3) = some (.inr (0, 40)) := by rw [eK3]; exact kS_eq
  obtain ⟨h7, eh7⟩ : ∃ q, q = sR h6 o 3 (some (o + 3)) := ⟨_, rfl⟩
  refine i_putF (h' := h7) (ty := .array (.int)) (sz := o + 4) X O (by decide +kernel) fl3_22r.1 (fun C T N h => by cases h; exact ⟨rfl, by decide +kernel⟩) (fun C T N h => by cases h; rfl) rfl rfl p3_o (by rw [fl3_22r.2, eh7]; exact Wr.r (x := some (o + 3))) ?_
  refine i_fin (ci := 3) (sz := o + 4) X p3_o rfl rfl ?_ ?_
  · intro j hj
    subst eh7
    subst eh6
    subst eK3
    subst eh5
    subst eh4
    subst eK2
    subst eh3
    subst eh2
    subst eK1
    subst eh1
    exact hall3 K h o j hj
  · subst eh7
    subst eh6
    subst eK3
    subst eh5
    subst eh4
    subst eK2
    subst eh3
    subst eh2
    subst eK1
    subst eh1
    exact i_ret (sz := o + 4) X O (by decide +kernel) (by decide) (by decide)
def kI4 (K : Ly) (o : Nat) : Ly := (kS (kS (kS K (o + 1) (.inr (0, 8))) (o + 2) (.inr (0, 8))) o (.inl 4))
def hI4 (h : Hp) (o : Nat) : Hp := (sR (zr (sR (zr (sI h o 0 (0 : Int32)) (o + 1)) o 1 (some (o + 1))) (o + 2)) o 2 (some (o + 2)))
theorem kI4_o {K : Ly} {o : Nat} : kI4 K o o = some (.inl 4) := by simp [kI4, kS]
theorem kI4_old {K : Ly} {o a : Nat} (ha : a < o) : kI4 K o a = K a := by
  unfold kI4
  repeat (first | rw [kS, if_neg (by omega)] | rfl)
theorem st4_1 (h : Hp) (o : Nat) : (hI4 h o).2.2 o 1 = some (o + 1) := by
  simp [hI4, sI, sL, sR, zr]
theorem st4_2 (h : Hp) (o : Nat) : (hI4 h o).2.2 o 2 = some (o + 2) := by
  simp [hI4, sI, sL, sR, zr]
theorem hall4 (K : Ly) (h : Hp) (o j : Nat) (hj : j < 3) : tV (fc 16 j) (hI4 h o) o j = tV (fc 4 j) (hI4 h o) o j := by
  by_cases hs : fc 16 j = fc 4 j
  · rw [hs]
  · have hm : j = 1 ∨ j = 2 := (show ∀ j, j < 3 → ¬ fc 16 j = fc 4 j → (j = 1 ∨ j = 2) by decide +kernel) j hj hs
    rcases hm with rfl | rfl
    · show va_rf ((hI4 h o).2.2 o 1) = .ref (o + 1)
      rw [st4_1]; rfl
    · show va_rf ((hI4 h o).2.2 o 2) = .ref (o + 2)
      rw [st4_2]; rfl
set_option maxHeartbeats 4000000 in
set_option maxRecDepth 100000 in
theorem ci4 {sp : Sp} {K : Ly} {h : Hp} {o : Nat} (hk : K o = some (.inl 16)) : ConI sp y4_init prog_5_method_1_code 1 1 2 16 o (o + 1) K h (o + 3) (kI4 K o) (hI4 h o) := by
  refine ConI.of (by decide) rfl (by decide) (fun Γ X O Q => ?_)
  refine g_aload_n (n := 0) (sz := o + 1) X (by decide +kernel) 0 rfl ?_
  refine i_obj (idx := 3) (sz := o + 1) X (by decide +kernel) (in_c1 160 rfl rfl) ob_i ob_c (by decide) (Nat.le_of_ble_eq_true rfl) ?_
  refine g_aload_n (n := 0) (sz := o + 1) X (by decide +kernel) 0 rfl ?_
  refine g_iconst (n := 0) (x := (0 : Int32)) (sz := o + 1) X (by decide +kernel) (by decide) ?_
  obtain ⟨h1, eh1⟩ : ∃ q, q = sI h o 0 (0 : Int32) := ⟨_, rfl⟩
  refine g_putf (h' := h1) (ty := .int) (sz := o + 1) X (by decide +kernel) fl4_9r.1 (fun C T N h => by cases h; exact ⟨rfl, by decide +kernel⟩) rfl rfl hk (by rw [fl4_9r.2, eh1]; exact Wr.i) ?_
  refine g_aload_n (n := 0) (sz := o + 1) X (by decide +kernel) 0 rfl ?_
  refine g_bipush (n := 8) (x := (8 : Int32)) (sz := o + 1) X (by decide +kernel) (by decide) ?_
  refine i_newa (aty := .int) (t := 0) (n := 8) (sz := o + 1) X O (by decide +kernel) (by decide) rfl ac_0 rfl (by decide) (by decide) (by decide) (by decide) (by decide) ?_
  obtain ⟨K1, eK1⟩ : ∃ q, q = kS K (o + 1) (.inr (0, 8)) := ⟨_, rfl⟩
  rw [← eK1]
  obtain ⟨h2, eh2⟩ : ∃ q, q = zr h1 (o + 1) := ⟨_, rfl⟩
  rw [← eh2]
  have p1_o : K1 (o) = some (.inl 16) := by rw [eK1]; exact kS_ne hk (by omega)
  have q1 : K1 (o + 1) = some (.inr (0, 8)) := by rw [eK1]; exact kS_eq
  obtain ⟨h3, eh3⟩ : ∃ q, q = sR h2 o 1 (some (o + 1)) := ⟨_, rfl⟩
  refine i_putF (h' := h3) (ty := .array (.int)) (sz := o + 2) X O (by decide +kernel) fl4_15r.1 (fun C T N h => by cases h; exact ⟨rfl, by decide +kernel⟩) (fun C T N h => by cases h; rfl) rfl rfl p1_o (by rw [fl4_15r.2, eh3]; exact Wr.r (x := some (o + 1))) ?_
  refine g_aload_n (n := 0) (sz := o + 2) X (by decide +kernel) 0 rfl ?_
  refine g_bipush (n := 8) (x := (8 : Int32)) (sz := o + 2) X (by decide +kernel) (by decide) ?_
  refine i_newa (aty := .int) (t := 0) (n := 8) (sz := o + 2) X O (by decide +kernel) (by decide) rfl ac_0 rfl (by decide) (by decide) (by decide) (by decide) (by decide) ?_
  obtain ⟨K2, eK2⟩ : ∃ q, q = kS K1 (o + 2) (.inr (0, 8)) := ⟨_, rfl⟩
  rw [← eK2]
  obtain ⟨h4, eh4⟩ : ∃ q, q = zr h3 (o + 2) := ⟨_, rfl⟩
  rw [← eh4]
  have p2_o : K2 (o) = some (.inl 16) := by rw [eK2]; exact kS_ne p1_o (by omega)
  have p2_o1 : K2 (o + 1) = some (.inr (0, 8)) := by rw [eK2]; exact kS_ne q1 (by omega)
  have q2 : K2 (o + 2) = some (.inr (0, 8)) := by rw [eK2]; exact kS_eq
  obtain ⟨h5, eh5⟩ : ∃ q, q = sR h4 o 2 (some (o + 2)) := ⟨_, rfl⟩
  refine i_putF (h' := h5) (ty := .array (.int)) (sz := o + 3) X O (by decide +kernel) fl4_19r.1 (fun C T N h => by cases h; exact ⟨rfl, by decide +kernel⟩) (fun C T N h => by cases h; rfl) rfl rfl p2_o (by rw [fl4_19r.2, eh5]; exact Wr.r (x := some (o + 2))) ?_
  refine i_fin (ci := 4) (sz := o + 3) X p2_o rfl rfl ?_ ?_
  · intro j hj
    subst eh5
    subst eh4
    subst eK2
    subst eh3
    subst eh2
    subst eK1
    subst eh1
    exact hall4 K h o j hj
  · subst eh5
    subst eh4
    subst eK2
    subst eh3
    subst eh2
    subst eK1
    subst eh1
    exact i_ret (sz := o + 3) X O (by decide +kernel) (by decide) (by decide)
def kI6 (K : Ly) (o : Nat) : Ly := (kS K o (.inl 6))
def hI6 (h : Hp) (o : Nat) : Hp := (sI (sI (sI (sI (sI (sL (sL (sI (sI (sI (sI h o 0 (0 : Int32)) o 1 (0 : Int32)) o 2 (0 : Int32)) o 3 (0 : Int32)) o 4 (0 : Int64)) o 5 (0 : Int64)) o 6 (0 : Int32)) o 7 (-1 : Int32)) o 8 (0 : Int32)) o 9 (0 : Int32)) o 10 (0 : Int32))
theorem kI6_o {K : Ly} {o : Nat} : kI6 K o o = some (.inl 6) := by simp [kI6, kS]
theorem kI6_old {K : Ly} {o a : Nat} (ha : a < o) : kI6 K o a = K a := by
  unfold kI6
  repeat (first | rw [kS, if_neg (by omega)] | rfl)
theorem hall6 (K : Ly) (h : Hp) (o j : Nat) (hj : j < 11) : tV (fc 18 j) (hI6 h o) o j = tV (fc 6 j) (hI6 h o) o j := by
  exact (show ∀ j, j < 11 → fc 18 j = fc 6 j by decide +kernel) j hj ▸ rfl
set_option maxHeartbeats 4000000 in
set_option maxRecDepth 100000 in
theorem ci6 {sp : Sp} {K : Ly} {h : Hp} {o : Nat} (hk : K o = some (.inl 18)) : ConI sp y6_init prog_3_method_1_code 1 1 0 0 o (o + 1) K h (o + 1) (kI6 K o) (hI6 h o) := by
  refine ConI.of (by decide) rfl (by decide) (fun Γ X O Q => ?_)
  refine g_aload_n (n := 0) (sz := o + 1) X (by decide +kernel) 0 rfl ?_
  refine i_obj (idx := 3) (sz := o + 1) X (by decide +kernel) (in_c2 115 rfl rfl) ob_i ob_c (by decide) (Nat.le_of_ble_eq_true rfl) ?_
  refine g_aload_n (n := 0) (sz := o + 1) X (by decide +kernel) 0 rfl ?_
  refine g_iconst (n := 0) (x := (0 : Int32)) (sz := o + 1) X (by decide +kernel) (by decide) ?_
  obtain ⟨h1, eh1⟩ : ∃ q, q = sI h o 0 (0 : Int32) := ⟨_, rfl⟩
  refine g_putf (h' := h1) (ty := .int) (sz := o + 1) X (by decide +kernel) fl6_9r.1 (fun C T N h => by cases h; exact ⟨rfl, by decide +kernel⟩) rfl rfl hk (by rw [fl6_9r.2, eh1]; exact Wr.i) ?_
  refine g_aload_n (n := 0) (sz := o + 1) X (by decide +kernel) 0 rfl ?_
  refine g_iconst (n := 0) (x := (0 : Int32)) (sz := o + 1) X (by decide +kernel) (by decide) ?_
  obtain ⟨h2, eh2⟩ : ∃ q, q = sI h1 o 1 (0 : Int32) := ⟨_, rfl⟩
  refine g_putf (h' := h2) (ty := .int) (sz := o + 1) X (by decide +kernel) fl6_15r.1 (fun C T N h => by cases h; exact ⟨rfl, by decide +kernel⟩) rfl rfl hk (by rw [fl6_15r.2, eh2]; exact Wr.i) ?_
  refine g_aload_n (n := 0) (sz := o + 1) X (by decide +kernel) 0 rfl ?_
  refine g_iconst (n := 0) (x := (0 : Int32)) (sz := o + 1) X (by decide +kernel) (by decide) ?_
  obtain ⟨h3, eh3⟩ : ∃ q, q = sI h2 o 2 (0 : Int32) := ⟨_, rfl⟩
  refine g_putf (h' := h3) (ty := .int) (sz := o + 1) X (by decide +kernel) fl6_18r.1 (fun C T N h => by cases h; exact ⟨rfl, by decide +kernel⟩) rfl rfl hk (by rw [fl6_18r.2, eh3]; exact Wr.i) ?_
  refine g_aload_n (n := 0) (sz := o + 1) X (by decide +kernel) 0 rfl ?_
  refine g_iconst (n := 0) (x := (0 : Int32)) (sz := o + 1) X (by decide +kernel) (by decide) ?_
  obtain ⟨h4, eh4⟩ : ∃ q, q = sI h3 o 3 (0 : Int32) := ⟨_, rfl⟩
  refine g_putf (h' := h4) (ty := .int) (sz := o + 1) X (by decide +kernel) fl6_21r.1 (fun C T N h => by cases h; exact ⟨rfl, by decide +kernel⟩) rfl rfl hk (by rw [fl6_21r.2, eh4]; exact Wr.i) ?_
  refine g_aload_n (n := 0) (sz := o + 1) X (by decide +kernel) 0 rfl ?_
  refine g_lconst (n := 0) (x := (0 : Int64)) (sz := o + 1) X (by decide +kernel) (by decide) ?_
  obtain ⟨h5, eh5⟩ : ∃ q, q = sL h4 o 4 (0 : Int64) := ⟨_, rfl⟩
  refine g_putf (h' := h5) (ty := .long) (sz := o + 1) X (by decide +kernel) fl6_24r.1 (fun C T N h => by cases h; exact ⟨rfl, by decide +kernel⟩) rfl rfl hk (by rw [fl6_24r.2, eh5]; exact Wr.l) ?_
  refine g_aload_n (n := 0) (sz := o + 1) X (by decide +kernel) 0 rfl ?_
  refine g_lconst (n := 0) (x := (0 : Int64)) (sz := o + 1) X (by decide +kernel) (by decide) ?_
  obtain ⟨h6, eh6⟩ : ∃ q, q = sL h5 o 5 (0 : Int64) := ⟨_, rfl⟩
  refine g_putf (h' := h6) (ty := .long) (sz := o + 1) X (by decide +kernel) fl6_28r.1 (fun C T N h => by cases h; exact ⟨rfl, by decide +kernel⟩) rfl rfl hk (by rw [fl6_28r.2, eh6]; exact Wr.l) ?_
  refine g_aload_n (n := 0) (sz := o + 1) X (by decide +kernel) 0 rfl ?_
  refine g_iconst (n := 0) (x := (0 : Int32)) (sz := o + 1) X (by decide +kernel) (by decide) ?_
  obtain ⟨h7, eh7⟩ : ∃ q, q = sI h6 o 6 (0 : Int32) := ⟨_, rfl⟩
  refine g_putf (h' := h7) (ty := .int) (sz := o + 1) X (by decide +kernel) fl6_31r.1 (fun C T N h => by cases h; exact ⟨rfl, by decide +kernel⟩) rfl rfl hk (by rw [fl6_31r.2, eh7]; exact Wr.i) ?_
  refine g_aload_n (n := 0) (sz := o + 1) X (by decide +kernel) 0 rfl ?_
  refine g_iconst (n := -1) (x := (-1 : Int32)) (sz := o + 1) X (by decide +kernel) (by decide) ?_
  obtain ⟨h8, eh8⟩ : ∃ q, q = sI h7 o 7 (-1 : Int32) := ⟨_, rfl⟩
  refine g_putf (h' := h8) (ty := .int) (sz := o + 1) X (by decide +kernel) fl6_34r.1 (fun C T N h => by cases h; exact ⟨rfl, by decide +kernel⟩) rfl rfl hk (by rw [fl6_34r.2, eh8]; exact Wr.i) ?_
  refine g_aload_n (n := 0) (sz := o + 1) X (by decide +kernel) 0 rfl ?_
  refine g_iconst (n := 0) (x := (0 : Int32)) (sz := o + 1) X (by decide +kernel) (by decide) ?_
  obtain ⟨h9, eh9⟩ : ∃ q, q = sI h8 o 8 (0 : Int32) := ⟨_, rfl⟩
  refine g_putf (h' := h9) (ty := .int) (sz := o + 1) X (by decide +kernel) fl6_37r.1 (fun C T N h => by cases h; exact ⟨rfl, by decide +kernel⟩) rfl rfl hk (by rw [fl6_37r.2, eh9]; exact Wr.i) ?_
  refine g_aload_n (n := 0) (sz := o + 1) X (by decide +kernel) 0 rfl ?_
  refine g_iconst (n := 0) (x := (0 : Int32)) (sz := o + 1) X (by decide +kernel) (by decide) ?_
  obtain ⟨h10, eh10⟩ : ∃ q, q = sI h9 o 9 (0 : Int32) := ⟨_, rfl⟩
  refine g_putf (h' := h10) (ty := .int) (sz := o + 1) X (by decide +kernel) fl6_40r.1 (fun C T N h => by cases h; exact ⟨rfl, by decide +kernel⟩) rfl rfl hk (by rw [fl6_40r.2, eh10]; exact Wr.i) ?_
  refine g_aload_n (n := 0) (sz := o + 1) X (by decide +kernel) 0 rfl ?_
  refine g_iconst (n := 0) (x := (0 : Int32)) (sz := o + 1) X (by decide +kernel) (by decide) ?_
  obtain ⟨h11, eh11⟩ : ∃ q, q = sI h10 o 10 (0 : Int32) := ⟨_, rfl⟩
  refine g_putf (h' := h11) (ty := .int) (sz := o + 1) X (by decide +kernel) fl6_43r.1 (fun C T N h => by cases h; exact ⟨rfl, by decide +kernel⟩) rfl rfl hk (by rw [fl6_43r.2, eh11]; exact Wr.i) ?_
  refine i_fin (ci := 6) (sz := o + 1) X hk rfl rfl ?_ ?_
  · intro j hj
    subst eh11
    subst eh10
    subst eh9
    subst eh8
    subst eh7
    subst eh6
    subst eh5
    subst eh4
    subst eh3
    subst eh2
    subst eh1
    exact hall6 K h o j hj
  · subst eh11
    subst eh10
    subst eh9
    subst eh8
    subst eh7
    subst eh6
    subst eh5
    subst eh4
    subst eh3
    subst eh2
    subst eh1
    exact i_ret (sz := o + 1) X O (by decide +kernel) (by decide) (by decide)
def kI7 (K : Ly) (o : Nat) : Ly := (kS K o (.inl 7))
def hI7 (h : Hp) (o : Nat) : Hp := (sI (sI (sI (sI (sI (sI (sI (sI (sI (sI (sI (sI (sI (sI h o 0 (0 : Int32)) o 1 (0 : Int32)) o 2 (0 : Int32)) o 3 (0 : Int32)) o 4 (0 : Int32)) o 5 (0 : Int32)) o 6 (0 : Int32)) o 7 (0 : Int32)) o 8 (0 : Int32)) o 9 (0 : Int32)) o 10 (0 : Int32)) o 11 (0 : Int32)) o 12 (0 : Int32)) o 13 (0 : Int32))
theorem kI7_o {K : Ly} {o : Nat} : kI7 K o o = some (.inl 7) := by simp [kI7, kS]
theorem kI7_old {K : Ly} {o a : Nat} (ha : a < o) : kI7 K o a = K a := by
  unfold kI7
  repeat (first | rw [kS, if_neg (by omega)] | rfl)
theorem hall7 (K : Ly) (h : Hp) (o j : Nat) (hj : j < 14) : tV (fc 19 j) (hI7 h o) o j = tV (fc 7 j) (hI7 h o) o j := by
  exact (show ∀ j, j < 14 → fc 19 j = fc 7 j by decide +kernel) j hj ▸ rfl
set_option maxHeartbeats 4000000 in
set_option maxRecDepth 100000 in
theorem ci7 {sp : Sp} {K : Ly} {h : Hp} {o : Nat} (hk : K o = some (.inl 19)) : ConI sp y7_init prog_6_method_1_code 1 1 0 0 o (o + 1) K h (o + 1) (kI7 K o) (hI7 h o) := by
  refine ConI.of (by decide) rfl (by decide) (fun Γ X O Q => ?_)
  refine g_aload_n (n := 0) (sz := o + 1) X (by decide +kernel) 0 rfl ?_
  refine i_obj (idx := 1) (sz := o + 1) X (by decide +kernel) (in_c2 46 rfl rfl) ob_i ob_c (by decide) (Nat.le_of_ble_eq_true rfl) ?_
  refine g_aload_n (n := 0) (sz := o + 1) X (by decide +kernel) 0 rfl ?_
  refine g_iconst (n := 0) (x := (0 : Int32)) (sz := o + 1) X (by decide +kernel) (by decide) ?_
  obtain ⟨h1, eh1⟩ : ∃ q, q = sI h o 0 (0 : Int32) := ⟨_, rfl⟩
  refine g_putf (h' := h1) (ty := .int) (sz := o + 1) X (by decide +kernel) fl7_9r.1 (fun C T N h => by cases h; exact ⟨rfl, by decide +kernel⟩) rfl rfl hk (by rw [fl7_9r.2, eh1]; exact Wr.i) ?_
  refine g_aload_n (n := 0) (sz := o + 1) X (by decide +kernel) 0 rfl ?_
  refine g_iconst (n := 0) (x := (0 : Int32)) (sz := o + 1) X (by decide +kernel) (by decide) ?_
  obtain ⟨h2, eh2⟩ : ∃ q, q = sI h1 o 1 (0 : Int32) := ⟨_, rfl⟩
  refine g_putf (h' := h2) (ty := .int) (sz := o + 1) X (by decide +kernel) fl7_13r.1 (fun C T N h => by cases h; exact ⟨rfl, by decide +kernel⟩) rfl rfl hk (by rw [fl7_13r.2, eh2]; exact Wr.i) ?_
  refine g_aload_n (n := 0) (sz := o + 1) X (by decide +kernel) 0 rfl ?_
  refine g_iconst (n := 0) (x := (0 : Int32)) (sz := o + 1) X (by decide +kernel) (by decide) ?_
  obtain ⟨h3, eh3⟩ : ∃ q, q = sI h2 o 2 (0 : Int32) := ⟨_, rfl⟩
  refine g_putf (h' := h3) (ty := .int) (sz := o + 1) X (by decide +kernel) fl7_16r.1 (fun C T N h => by cases h; exact ⟨rfl, by decide +kernel⟩) rfl rfl hk (by rw [fl7_16r.2, eh3]; exact Wr.i) ?_
  refine g_aload_n (n := 0) (sz := o + 1) X (by decide +kernel) 0 rfl ?_
  refine g_iconst (n := 0) (x := (0 : Int32)) (sz := o + 1) X (by decide +kernel) (by decide) ?_
  obtain ⟨h4, eh4⟩ : ∃ q, q = sI h3 o 3 (0 : Int32) := ⟨_, rfl⟩
  refine g_putf (h' := h4) (ty := .int) (sz := o + 1) X (by decide +kernel) fl7_19r.1 (fun C T N h => by cases h; exact ⟨rfl, by decide +kernel⟩) rfl rfl hk (by rw [fl7_19r.2, eh4]; exact Wr.i) ?_
  refine g_aload_n (n := 0) (sz := o + 1) X (by decide +kernel) 0 rfl ?_
  refine g_iconst (n := 0) (x := (0 : Int32)) (sz := o + 1) X (by decide +kernel) (by decide) ?_
  obtain ⟨h5, eh5⟩ : ∃ q, q = sI h4 o 4 (0 : Int32) := ⟨_, rfl⟩
  refine g_putf (h' := h5) (ty := .int) (sz := o + 1) X (by decide +kernel) fl7_22r.1 (fun C T N h => by cases h; exact ⟨rfl, by decide +kernel⟩) rfl rfl hk (by rw [fl7_22r.2, eh5]; exact Wr.i) ?_
  refine g_aload_n (n := 0) (sz := o + 1) X (by decide +kernel) 0 rfl ?_
  refine g_iconst (n := 0) (x := (0 : Int32)) (sz := o + 1) X (by decide +kernel) (by decide) ?_
  obtain ⟨h6, eh6⟩ : ∃ q, q = sI h5 o 5 (0 : Int32) := ⟨_, rfl⟩
  refine g_putf (h' := h6) (ty := .int) (sz := o + 1) X (by decide +kernel) fl7_25r.1 (fun C T N h => by cases h; exact ⟨rfl, by decide +kernel⟩) rfl rfl hk (by rw [fl7_25r.2, eh6]; exact Wr.i) ?_
  refine g_aload_n (n := 0) (sz := o + 1) X (by decide +kernel) 0 rfl ?_
  refine g_iconst (n := 0) (x := (0 : Int32)) (sz := o + 1) X (by decide +kernel) (by decide) ?_
  obtain ⟨h7, eh7⟩ : ∃ q, q = sI h6 o 6 (0 : Int32) := ⟨_, rfl⟩
  refine g_putf (h' := h7) (ty := .int) (sz := o + 1) X (by decide +kernel) fl7_28r.1 (fun C T N h => by cases h; exact ⟨rfl, by decide +kernel⟩) rfl rfl hk (by rw [fl7_28r.2, eh7]; exact Wr.i) ?_
  refine g_aload_n (n := 0) (sz := o + 1) X (by decide +kernel) 0 rfl ?_
  refine g_iconst (n := 0) (x := (0 : Int32)) (sz := o + 1) X (by decide +kernel) (by decide) ?_
  obtain ⟨h8, eh8⟩ : ∃ q, q = sI h7 o 7 (0 : Int32) := ⟨_, rfl⟩
  refine g_putf (h' := h8) (ty := .int) (sz := o + 1) X (by decide +kernel) fl7_31r.1 (fun C T N h => by cases h; exact ⟨rfl, by decide +kernel⟩) rfl rfl hk (by rw [fl7_31r.2, eh8]; exact Wr.i) ?_
  refine g_aload_n (n := 0) (sz := o + 1) X (by decide +kernel) 0 rfl ?_
  refine g_iconst (n := 0) (x := (0 : Int32)) (sz := o + 1) X (by decide +kernel) (by decide) ?_
  obtain ⟨h9, eh9⟩ : ∃ q, q = sI h8 o 8 (0 : Int32) := ⟨_, rfl⟩
  refine g_putf (h' := h9) (ty := .int) (sz := o + 1) X (by decide +kernel) fl7_34r.1 (fun C T N h => by cases h; exact ⟨rfl, by decide +kernel⟩) rfl rfl hk (by rw [fl7_34r.2, eh9]; exact Wr.i) ?_
  refine g_aload_n (n := 0) (sz := o + 1) X (by decide +kernel) 0 rfl ?_
  refine g_iconst (n := 0) (x := (0 : Int32)) (sz := o + 1) X (by decide +kernel) (by decide) ?_
  obtain ⟨h10, eh10⟩ : ∃ q, q = sI h9 o 9 (0 : Int32) := ⟨_, rfl⟩
  refine g_putf (h' := h10) (ty := .int) (sz := o + 1) X (by decide +kernel) fl7_37r.1 (fun C T N h => by cases h; exact ⟨rfl, by decide +kernel⟩) rfl rfl hk (by rw [fl7_37r.2, eh10]; exact Wr.i) ?_
  refine g_aload_n (n := 0) (sz := o + 1) X (by decide +kernel) 0 rfl ?_
  refine g_iconst (n := 0) (x := (0 : Int32)) (sz := o + 1) X (by decide +kernel) (by decide) ?_
  obtain ⟨h11, eh11⟩ : ∃ q, q = sI h10 o 10 (0 : Int32) := ⟨_, rfl⟩
  refine g_putf (h' := h11) (ty := .int) (sz := o + 1) X (by decide +kernel) fl7_40r.1 (fun C T N h => by cases h; exact ⟨rfl, by decide +kernel⟩) rfl rfl hk (by rw [fl7_40r.2, eh11]; exact Wr.i) ?_
  refine g_aload_n (n := 0) (sz := o + 1) X (by decide +kernel) 0 rfl ?_
  refine g_iconst (n := 0) (x := (0 : Int32)) (sz := o + 1) X (by decide +kernel) (by decide) ?_
  obtain ⟨h12, eh12⟩ : ∃ q, q = sI h11 o 11 (0 : Int32) := ⟨_, rfl⟩
  refine g_putf (h' := h12) (ty := .int) (sz := o + 1) X (by decide +kernel) fl7_43r.1 (fun C T N h => by cases h; exact ⟨rfl, by decide +kernel⟩) rfl rfl hk (by rw [fl7_43r.2, eh12]; exact Wr.i) ?_
  refine g_aload_n (n := 0) (sz := o + 1) X (by decide +kernel) 0 rfl ?_
  refine g_iconst (n := 0) (x := (0 : Int32)) (sz := o + 1) X (by decide +kernel) (by decide) ?_
  obtain ⟨h13, eh13⟩ : ∃ q, q = sI h12 o 12 (0 : Int32) := ⟨_, rfl⟩
  refine g_putf (h' := h13) (ty := .int) (sz := o + 1) X (by decide +kernel) fl7_46r.1 (fun C T N h => by cases h; exact ⟨rfl, by decide +kernel⟩) rfl rfl hk (by rw [fl7_46r.2, eh13]; exact Wr.i) ?_
  refine g_aload_n (n := 0) (sz := o + 1) X (by decide +kernel) 0 rfl ?_
  refine g_iconst (n := 0) (x := (0 : Int32)) (sz := o + 1) X (by decide +kernel) (by decide) ?_
  obtain ⟨h14, eh14⟩ : ∃ q, q = sI h13 o 13 (0 : Int32) := ⟨_, rfl⟩
  refine g_putf (h' := h14) (ty := .int) (sz := o + 1) X (by decide +kernel) fl7_49r.1 (fun C T N h => by cases h; exact ⟨rfl, by decide +kernel⟩) rfl rfl hk (by rw [fl7_49r.2, eh14]; exact Wr.i) ?_
  refine i_fin (ci := 7) (sz := o + 1) X hk rfl rfl ?_ ?_
  · intro j hj
    subst eh14
    subst eh13
    subst eh12
    subst eh11
    subst eh10
    subst eh9
    subst eh8
    subst eh7
    subst eh6
    subst eh5
    subst eh4
    subst eh3
    subst eh2
    subst eh1
    exact hall7 K h o j hj
  · subst eh14
    subst eh13
    subst eh12
    subst eh11
    subst eh10
    subst eh9
    subst eh8
    subst eh7
    subst eh6
    subst eh5
    subst eh4
    subst eh3
    subst eh2
    subst eh1
    exact i_ret (sz := o + 1) X O (by decide +kernel) (by decide) (by decide)
def kI8 (K : Ly) (o : Nat) : Ly := (kS (kS (kS (kS K (o + 1) (.inr (0, 4))) (o + 2) (.inr (0, 4))) (o + 3) (.inr (0, 4))) o (.inl 8))
def hI8 (h : Hp) (o : Nat) : Hp := (sR (zr (sR (zr (sR (zr (sI h o 0 (0 : Int32)) (o + 1)) o 1 (some (o + 1))) (o + 2)) o 2 (some (o + 2))) (o + 3)) o 3 (some (o + 3)))
theorem kI8_o {K : Ly} {o : Nat} : kI8 K o o = some (.inl 8) := by simp [kI8, kS]
theorem kI8_old {K : Ly} {o a : Nat} (ha : a < o) : kI8 K o a = K a := by
  unfold kI8
  repeat (first | rw [kS, if_neg (by omega)] | rfl)
theorem st8_1 (h : Hp) (o : Nat) : (hI8 h o).2.2 o 1 = some (o + 1) := by
  simp [hI8, sI, sL, sR, zr]
theorem st8_2 (h : Hp) (o : Nat) : (hI8 h o).2.2 o 2 = some (o + 2) := by
  simp [hI8, sI, sL, sR, zr]
theorem st8_3 (h : Hp) (o : Nat) : (hI8 h o).2.2 o 3 = some (o + 3) := by
  simp [hI8, sI, sL, sR, zr]
theorem hall8 (K : Ly) (h : Hp) (o j : Nat) (hj : j < 4) : tV (fc 20 j) (hI8 h o) o j = tV (fc 8 j) (hI8 h o) o j := by
  by_cases hs : fc 20 j = fc 8 j
  · rw [hs]
  · have hm : j = 1 ∨ j = 2 ∨ j = 3 := (show ∀ j, j < 4 → ¬ fc 20 j = fc 8 j → (j = 1 ∨ j = 2 ∨ j = 3) by decide +kernel) j hj hs
    rcases hm with rfl | rfl | rfl
    · show va_rf ((hI8 h o).2.2 o 1) = .ref (o + 1)
      rw [st8_1]; rfl
    · show va_rf ((hI8 h o).2.2 o 2) = .ref (o + 2)
      rw [st8_2]; rfl
    · show va_rf ((hI8 h o).2.2 o 3) = .ref (o + 3)
      rw [st8_3]; rfl
set_option maxHeartbeats 4000000 in
set_option maxRecDepth 100000 in
theorem ci8 {sp : Sp} {K : Ly} {h : Hp} {o : Nat} (hk : K o = some (.inl 20)) : ConI sp y8_init prog_10_method_1_code 1 1 3 12 o (o + 1) K h (o + 4) (kI8 K o) (hI8 h o) := by
  refine ConI.of (by decide) rfl (by decide) (fun Γ X O Q => ?_)
  refine g_aload_n (n := 0) (sz := o + 1) X (by decide +kernel) 0 rfl ?_
  refine i_obj (idx := 3) (sz := o + 1) X (by decide +kernel) (in_c2 166 rfl rfl) ob_i ob_c (by decide) (Nat.le_of_ble_eq_true rfl) ?_
  refine g_aload_n (n := 0) (sz := o + 1) X (by decide +kernel) 0 rfl ?_
  refine g_iconst (n := 0) (x := (0 : Int32)) (sz := o + 1) X (by decide +kernel) (by decide) ?_
  obtain ⟨h1, eh1⟩ : ∃ q, q = sI h o 0 (0 : Int32) := ⟨_, rfl⟩
  refine g_putf (h' := h1) (ty := .int) (sz := o + 1) X (by decide +kernel) fl8_9r.1 (fun C T N h => by cases h; exact ⟨rfl, by decide +kernel⟩) rfl rfl hk (by rw [fl8_9r.2, eh1]; exact Wr.i) ?_
  refine g_aload_n (n := 0) (sz := o + 1) X (by decide +kernel) 0 rfl ?_
  refine g_iconst (n := 4) (x := (4 : Int32)) (sz := o + 1) X (by decide +kernel) (by decide) ?_
  refine i_newa (aty := .int) (t := 0) (n := 4) (sz := o + 1) X O (by decide +kernel) (by decide) rfl ac_0 rfl (by decide) (by decide) (by decide) (by decide) (by decide) ?_
  obtain ⟨K1, eK1⟩ : ∃ q, q = kS K (o + 1) (.inr (0, 4)) := ⟨_, rfl⟩
  rw [← eK1]
  obtain ⟨h2, eh2⟩ : ∃ q, q = zr h1 (o + 1) := ⟨_, rfl⟩
  rw [← eh2]
  have p1_o : K1 (o) = some (.inl 20) := by rw [eK1]; exact kS_ne hk (by omega)
  have q1 : K1 (o + 1) = some (.inr (0, 4)) := by rw [eK1]; exact kS_eq
  obtain ⟨h3, eh3⟩ : ∃ q, q = sR h2 o 1 (some (o + 1)) := ⟨_, rfl⟩
  refine i_putF (h' := h3) (ty := .array (.int)) (sz := o + 2) X O (by decide +kernel) fl8_15r.1 (fun C T N h => by cases h; exact ⟨rfl, by decide +kernel⟩) (fun C T N h => by cases h; rfl) rfl rfl p1_o (by rw [fl8_15r.2, eh3]; exact Wr.r (x := some (o + 1))) ?_
  refine g_aload_n (n := 0) (sz := o + 2) X (by decide +kernel) 0 rfl ?_
  refine g_iconst (n := 4) (x := (4 : Int32)) (sz := o + 2) X (by decide +kernel) (by decide) ?_
  refine i_newa (aty := .int) (t := 0) (n := 4) (sz := o + 2) X O (by decide +kernel) (by decide) rfl ac_0 rfl (by decide) (by decide) (by decide) (by decide) (by decide) ?_
  obtain ⟨K2, eK2⟩ : ∃ q, q = kS K1 (o + 2) (.inr (0, 4)) := ⟨_, rfl⟩
  rw [← eK2]
  obtain ⟨h4, eh4⟩ : ∃ q, q = zr h3 (o + 2) := ⟨_, rfl⟩
  rw [← eh4]
  have p2_o : K2 (o) = some (.inl 20) := by rw [eK2]; exact kS_ne p1_o (by omega)
  have p2_o1 : K2 (o + 1) = some (.inr (0, 4)) := by rw [eK2]; exact kS_ne q1 (by omega)
  have q2 : K2 (o + 2) = some (.inr (0, 4)) := by rw [eK2]; exact kS_eq
  obtain ⟨h5, eh5⟩ : ∃ q, q = sR h4 o 2 (some (o + 2)) := ⟨_, rfl⟩
  refine i_putF (h' := h5) (ty := .array (.int)) (sz := o + 3) X O (by decide +kernel) fl8_19r.1 (fun C T N h => by cases h; exact ⟨rfl, by decide +kernel⟩) (fun C T N h => by cases h; rfl) rfl rfl p2_o (by rw [fl8_19r.2, eh5]; exact Wr.r (x := some (o + 2))) ?_
  refine g_aload_n (n := 0) (sz := o + 3) X (by decide +kernel) 0 rfl ?_
  refine g_iconst (n := 4) (x := (4 : Int32)) (sz := o + 3) X (by decide +kernel) (by decide) ?_
  refine i_newa (aty := .int) (t := 0) (n := 4) (sz := o + 3) X O (by decide +kernel) (by decide) rfl ac_0 rfl (by decide) (by decide) (by decide) (by decide) (by decide) ?_
  obtain ⟨K3, eK3⟩ : ∃ q, q = kS K2 (o + 3) (.inr (0, 4)) := ⟨_, rfl⟩
  rw [← eK3]
  obtain ⟨h6, eh6⟩ : ∃ q, q = zr h5 (o + 3) := ⟨_, rfl⟩
  rw [← eh6]
  have p3_o : K3 (o) = some (.inl 20) := by rw [eK3]; exact kS_ne p2_o (by omega)
  have p3_o1 : K3 (o + 1) = some (.inr (0, 4)) := by rw [eK3]; exact kS_ne p2_o1 (by omega)
  have p3_o2 : K3 (o + 2) = some (.inr (0, 4)) := by rw [eK3]; exact kS_ne q2 (by omega)
  have q3 : K3 (o + 3) = some (.inr (0, 4)) := by rw [eK3]; exact kS_eq
  obtain ⟨h7, eh7⟩ : ∃ q, q = sR h6 o 3 (some (o + 3)) := ⟨_, rfl⟩
  refine i_putF (h' := h7) (ty := .array (.int)) (sz := o + 4) X O (by decide +kernel) fl8_22r.1 (fun C T N h => by cases h; exact ⟨rfl, by decide +kernel⟩) (fun C T N h => by cases h; rfl) rfl rfl p3_o (by rw [fl8_22r.2, eh7]; exact Wr.r (x := some (o + 3))) ?_
  refine i_fin (ci := 8) (sz := o + 4) X p3_o rfl rfl ?_ ?_
  · intro j hj
    subst eh7
    subst eh6
    subst eK3
    subst eh5
    subst eh4
    subst eK2
    subst eh3
    subst eh2
    subst eK1
    subst eh1
    exact hall8 K h o j hj
  · subst eh7
    subst eh6
    subst eK3
    subst eh5
    subst eh4
    subst eK2
    subst eh3
    subst eh2
    subst eK1
    subst eh1
    exact i_ret (sz := o + 4) X O (by decide +kernel) (by decide) (by decide)
def kI9 (K : Ly) (o : Nat) : Ly := (kS K o (.inl 9))
def hI9 (h : Hp) (o : Nat) : Hp := (sI (sI (sI (sI (sI (sI (sI (sI h o 0 (0 : Int32)) o 1 (0 : Int32)) o 2 (-1 : Int32)) o 3 (-1 : Int32)) o 4 (-1 : Int32)) o 5 (-1 : Int32)) o 6 (-1 : Int32)) o 7 (-1 : Int32))
theorem kI9_o {K : Ly} {o : Nat} : kI9 K o o = some (.inl 9) := by simp [kI9, kS]
theorem kI9_old {K : Ly} {o a : Nat} (ha : a < o) : kI9 K o a = K a := by
  unfold kI9
  repeat (first | rw [kS, if_neg (by omega)] | rfl)
theorem hall9 (K : Ly) (h : Hp) (o j : Nat) (hj : j < 8) : tV (fc 21 j) (hI9 h o) o j = tV (fc 9 j) (hI9 h o) o j := by
  exact (show ∀ j, j < 8 → fc 21 j = fc 9 j by decide +kernel) j hj ▸ rfl
set_option maxHeartbeats 4000000 in
set_option maxRecDepth 100000 in
theorem ci9 {sp : Sp} {K : Ly} {h : Hp} {o : Nat} (hk : K o = some (.inl 21)) : ConI sp y9_init prog_4_method_1_code 1 1 0 0 o (o + 1) K h (o + 1) (kI9 K o) (hI9 h o) := by
  refine ConI.of (by decide) rfl (by decide) (fun Γ X O Q => ?_)
  refine g_aload_n (n := 0) (sz := o + 1) X (by decide +kernel) 0 rfl ?_
  refine i_obj (idx := 3) (sz := o + 1) X (by decide +kernel) (in_c2 192 rfl rfl) ob_i ob_c (by decide) (Nat.le_of_ble_eq_true rfl) ?_
  refine g_aload_n (n := 0) (sz := o + 1) X (by decide +kernel) 0 rfl ?_
  refine g_iconst (n := 0) (x := (0 : Int32)) (sz := o + 1) X (by decide +kernel) (by decide) ?_
  obtain ⟨h1, eh1⟩ : ∃ q, q = sI h o 0 (0 : Int32) := ⟨_, rfl⟩
  refine g_putf (h' := h1) (ty := .int) (sz := o + 1) X (by decide +kernel) fl9_9r.1 (fun C T N h => by cases h; exact ⟨rfl, by decide +kernel⟩) rfl rfl hk (by rw [fl9_9r.2, eh1]; exact Wr.i) ?_
  refine g_aload_n (n := 0) (sz := o + 1) X (by decide +kernel) 0 rfl ?_
  refine g_iconst (n := 0) (x := (0 : Int32)) (sz := o + 1) X (by decide +kernel) (by decide) ?_
  obtain ⟨h2, eh2⟩ : ∃ q, q = sI h1 o 1 (0 : Int32) := ⟨_, rfl⟩
  refine g_putf (h' := h2) (ty := .int) (sz := o + 1) X (by decide +kernel) fl9_15r.1 (fun C T N h => by cases h; exact ⟨rfl, by decide +kernel⟩) rfl rfl hk (by rw [fl9_15r.2, eh2]; exact Wr.i) ?_
  refine g_aload_n (n := 0) (sz := o + 1) X (by decide +kernel) 0 rfl ?_
  refine g_iconst (n := -1) (x := (-1 : Int32)) (sz := o + 1) X (by decide +kernel) (by decide) ?_
  obtain ⟨h3, eh3⟩ : ∃ q, q = sI h2 o 2 (-1 : Int32) := ⟨_, rfl⟩
  refine g_putf (h' := h3) (ty := .int) (sz := o + 1) X (by decide +kernel) fl9_18r.1 (fun C T N h => by cases h; exact ⟨rfl, by decide +kernel⟩) rfl rfl hk (by rw [fl9_18r.2, eh3]; exact Wr.i) ?_
  refine g_aload_n (n := 0) (sz := o + 1) X (by decide +kernel) 0 rfl ?_
  refine g_iconst (n := -1) (x := (-1 : Int32)) (sz := o + 1) X (by decide +kernel) (by decide) ?_
  obtain ⟨h4, eh4⟩ : ∃ q, q = sI h3 o 3 (-1 : Int32) := ⟨_, rfl⟩
  refine g_putf (h' := h4) (ty := .int) (sz := o + 1) X (by decide +kernel) fl9_21r.1 (fun C T N h => by cases h; exact ⟨rfl, by decide +kernel⟩) rfl rfl hk (by rw [fl9_21r.2, eh4]; exact Wr.i) ?_
  refine g_aload_n (n := 0) (sz := o + 1) X (by decide +kernel) 0 rfl ?_
  refine g_iconst (n := -1) (x := (-1 : Int32)) (sz := o + 1) X (by decide +kernel) (by decide) ?_
  obtain ⟨h5, eh5⟩ : ∃ q, q = sI h4 o 4 (-1 : Int32) := ⟨_, rfl⟩
  refine g_putf (h' := h5) (ty := .int) (sz := o + 1) X (by decide +kernel) fl9_24r.1 (fun C T N h => by cases h; exact ⟨rfl, by decide +kernel⟩) rfl rfl hk (by rw [fl9_24r.2, eh5]; exact Wr.i) ?_
  refine g_aload_n (n := 0) (sz := o + 1) X (by decide +kernel) 0 rfl ?_
  refine g_iconst (n := -1) (x := (-1 : Int32)) (sz := o + 1) X (by decide +kernel) (by decide) ?_
  obtain ⟨h6, eh6⟩ : ∃ q, q = sI h5 o 5 (-1 : Int32) := ⟨_, rfl⟩
  refine g_putf (h' := h6) (ty := .int) (sz := o + 1) X (by decide +kernel) fl9_27r.1 (fun C T N h => by cases h; exact ⟨rfl, by decide +kernel⟩) rfl rfl hk (by rw [fl9_27r.2, eh6]; exact Wr.i) ?_
  refine g_aload_n (n := 0) (sz := o + 1) X (by decide +kernel) 0 rfl ?_
  refine g_iconst (n := -1) (x := (-1 : Int32)) (sz := o + 1) X (by decide +kernel) (by decide) ?_
  obtain ⟨h7, eh7⟩ : ∃ q, q = sI h6 o 6 (-1 : Int32) := ⟨_, rfl⟩
  refine g_putf (h' := h7) (ty := .int) (sz := o + 1) X (by decide +kernel) fl9_30r.1 (fun C T N h => by cases h; exact ⟨rfl, by decide +kernel⟩) rfl rfl hk (by rw [fl9_30r.2, eh7]; exact Wr.i) ?_
  refine g_aload_n (n := 0) (sz := o + 1) X (by decide +kernel) 0 rfl ?_
  refine g_iconst (n := -1) (x := (-1 : Int32)) (sz := o + 1) X (by decide +kernel) (by decide) ?_
  obtain ⟨h8, eh8⟩ : ∃ q, q = sI h7 o 7 (-1 : Int32) := ⟨_, rfl⟩
  refine g_putf (h' := h8) (ty := .int) (sz := o + 1) X (by decide +kernel) fl9_33r.1 (fun C T N h => by cases h; exact ⟨rfl, by decide +kernel⟩) rfl rfl hk (by rw [fl9_33r.2, eh8]; exact Wr.i) ?_
  refine i_fin (ci := 9) (sz := o + 1) X hk rfl rfl ?_ ?_
  · intro j hj
    subst eh8
    subst eh7
    subst eh6
    subst eh5
    subst eh4
    subst eh3
    subst eh2
    subst eh1
    exact hall9 K h o j hj
  · subst eh8
    subst eh7
    subst eh6
    subst eh5
    subst eh4
    subst eh3
    subst eh2
    subst eh1
    exact i_ret (sz := o + 1) X O (by decide +kernel) (by decide) (by decide)
def kI11 (K : Ly) (o : Nat) : Ly := (kS (kS (kS (kS (kS (kS (kS (kS (kS (kS (kS (kS (kS (kS (kS (kS (kS (kS (kS (kS (kS (kS (kS (kS (kS (kS (kS (kS (kS (kS (kS (kS (kS (kS (kS (kS (kS (kS (kS (kS (kS (kS (kS (kS (kS (kS (kS (kS (kS (kS (kS (kS (kS K (o + 1) (.inr (1, 2400))) (o + 2) (.inr (0, 4))) (o + 3) (.inr (0, 4))) (o + 4) (.inr (0, 4))) (o + 5) (.inr (0, 12))) (o + 6) (.inr (0, 976))) (o + 7) (.inr (0, 968))) (o + 8) (.inr (0, 136))) (o + 9) (.inr (0, 122))) (o + 10) (.inr (0, 4))) (o + 11) (.inr (0, 36))) (o + 12) (.inr (3, 6))) (o + 13) (.inr (0, 36))) (o + 14) (.inr (0, 6))) (o + 15) (.inr (0, 36))) (o + 16) (.inr (0, 36))) (o + 17) (.inr (0, 36))) (o + 18) (.inr (0, 6))) (o + 19) (.inr (0, 384))) (o + 20) (.inr (0, 384))) (o + 21) (.inr (0, 384))) (o + 22) (.inr (3, 384))) (o + 23) (.inr (3, 384))) (o + 24) (.inr (0, 384))) (o + 25) (.inr (0, 384))) (o + 26) (.inr (0, 384))) (o + 27) (.inr (0, 384))) (o + 28) (.inr (0, 384))) (o + 29) (.inr (0, 4096))) (o + 30) (.inr (0, 4096))) (o + 31) (.inr (0, 4096))) (o + 32) (.inr (0, 4096))) (o + 33) (.inr (0, 4096))) (o + 34) (.inr (0, 4096))) (o + 35) (.inr (0, 4096))) (o + 36) (.inr (0, 4096))) (o + 37) (.inr (0, 4096))) (o + 38) (.inr (0, 4096))) (o + 39) (.inr (0, 4096))) (o + 40) (.inr (0, 64))) (o + 41) (.inr (0, 64))) (o + 42) (.inr (0, 64))) (o + 43) (.inr (0, 64))) (o + 44) (.inr (0, 64))) (o + 45) (.inr (0, 64))) (o + 46) (.inr (0, 64))) (o + 47) (.inr (0, 64))) (o + 48) (.inr (0, 48))) (o + 49) (.inr (0, 8))) (o + 50) (.inr (0, 36))) (o + 51) (.inr (0, 40))) (o + 52) (.inr (2, 3))) o (.inl 11))
def hI11 (h : Hp) (o : Nat) : Hp := (sI (sR (zr (sR (zr (sR (zr (sR (zr (sR (zr (sR (zr (sR (zr (sR (zr (sR (zr (sR (zr (sR (zr (sR (zr (sR (zr (sR (zr (sR (zr (sR (zr (sR (zr (sR (zr (sR (zr (sR (zr (sR (zr (sR (zr (sR (zr (sR (zr (sR (zr (sR (zr (sR (zr (sR (zr (sR (zr (sR (zr (sR (zr (sR (zr (sR (zr (sR (zr (sR (zr (sR (zr (sR (zr (sR (zr (sR (zr (sR (zr (sR (zr (sR (zr (sR (zr (sR (zr (sR (zr (sR (zr (sR (zr (sR (zr (sR (zr (sR (zr (sR (zr (sR (zr h (o + 1)) o 1 (some (o + 1))) (o + 2)) o 2 (some (o + 2))) (o + 3)) o 3 (some (o + 3))) (o + 4)) o 4 (some (o + 4))) (o + 5)) o 5 (some (o + 5))) (o + 6)) o 6 (some (o + 6))) (o + 7)) o 7 (some (o + 7))) (o + 8)) o 8 (some (o + 8))) (o + 9)) o 18 (some (o + 9))) (o + 10)) o 19 (some (o + 10))) (o + 11)) o 25 (some (o + 11))) (o + 12)) o 28 (some (o + 12))) (o + 13)) o 29 (some (o + 13))) (o + 14)) o 30 (some (o + 14))) (o + 15)) o 31 (some (o + 15))) (o + 16)) o 32 (some (o + 16))) (o + 17)) o 33 (some (o + 17))) (o + 18)) o 34 (some (o + 18))) (o + 19)) o 35 (some (o + 19))) (o + 20)) o 36 (some (o + 20))) (o + 21)) o 37 (some (o + 21))) (o + 22)) o 38 (some (o + 22))) (o + 23)) o 39 (some (o + 23))) (o + 24)) o 40 (some (o + 24))) (o + 25)) o 41 (some (o + 25))) (o + 26)) o 42 (some (o + 26))) (o + 27)) o 43 (some (o + 27))) (o + 28)) o 44 (some (o + 28))) (o + 29)) o 46 (some (o + 29))) (o + 30)) o 47 (some (o + 30))) (o + 31)) o 48 (some (o + 31))) (o + 32)) o 49 (some (o + 32))) (o + 33)) o 50 (some (o + 33))) (o + 34)) o 51 (some (o + 34))) (o + 35)) o 52 (some (o + 35))) (o + 36)) o 53 (some (o + 36))) (o + 37)) o 54 (some (o + 37))) (o + 38)) o 55 (some (o + 38))) (o + 39)) o 56 (some (o + 39))) (o + 40)) o 57 (some (o + 40))) (o + 41)) o 58 (some (o + 41))) (o + 42)) o 59 (some (o + 42))) (o + 43)) o 60 (some (o + 43))) (o + 44)) o 61 (some (o + 44))) (o + 45)) o 62 (some (o + 45))) (o + 46)) o 63 (some (o + 46))) (o + 47)) o 64 (some (o + 47))) (o + 48)) o 77 (some (o + 48))) (o + 49)) o 78 (some (o + 49))) (o + 50)) o 80 (some (o + 50))) (o + 51)) o 84 (some (o + 51))) (o + 52)) o 86 (some (o + 52))) (o + 4) (0 : Int32).toNatClampNeg (-1 : Int32))
theorem kI11_o {K : Ly} {o : Nat} : kI11 K o o = some (.inl 11) := by simp [kI11, kS]
theorem kI11_old {K : Ly} {o a : Nat} (ha : a < o) : kI11 K o a = K a := by
  unfold kI11
  repeat (first | rw [kS, if_neg (by omega)] | rfl)
theorem st11_1 (h : Hp) (o : Nat) : (hI11 h o).2.2 o 1 = some (o + 1) := by
  simp [hI11, sI, sL, sR, zr]
theorem st11_2 (h : Hp) (o : Nat) : (hI11 h o).2.2 o 2 = some (o + 2) := by
  simp [hI11, sI, sL, sR, zr]
theorem st11_3 (h : Hp) (o : Nat) : (hI11 h o).2.2 o 3 = some (o + 3) := by
  simp [hI11, sI, sL, sR, zr]
theorem st11_4 (h : Hp) (o : Nat) : (hI11 h o).2.2 o 4 = some (o + 4) := by
  simp [hI11, sI, sL, sR, zr]
theorem st11_5 (h : Hp) (o : Nat) : (hI11 h o).2.2 o 5 = some (o + 5) := by
  simp [hI11, sI, sL, sR, zr]
theorem st11_6 (h : Hp) (o : Nat) : (hI11 h o).2.2 o 6 = some (o + 6) := by
  simp [hI11, sI, sL, sR, zr]
theorem st11_7 (h : Hp) (o : Nat) : (hI11 h o).2.2 o 7 = some (o + 7) := by
  simp [hI11, sI, sL, sR, zr]
theorem st11_8 (h : Hp) (o : Nat) : (hI11 h o).2.2 o 8 = some (o + 8) := by
  simp [hI11, sI, sL, sR, zr]
theorem st11_18 (h : Hp) (o : Nat) : (hI11 h o).2.2 o 18 = some (o + 9) := by
  simp [hI11, sI, sL, sR, zr]
theorem st11_19 (h : Hp) (o : Nat) : (hI11 h o).2.2 o 19 = some (o + 10) := by
  simp [hI11, sI, sL, sR, zr]
theorem st11_25 (h : Hp) (o : Nat) : (hI11 h o).2.2 o 25 = some (o + 11) := by
  simp [hI11, sI, sL, sR, zr]
theorem st11_28 (h : Hp) (o : Nat) : (hI11 h o).2.2 o 28 = some (o + 12) := by
  simp [hI11, sI, sL, sR, zr]
theorem st11_29 (h : Hp) (o : Nat) : (hI11 h o).2.2 o 29 = some (o + 13) := by
  simp [hI11, sI, sL, sR, zr]
theorem st11_30 (h : Hp) (o : Nat) : (hI11 h o).2.2 o 30 = some (o + 14) := by
  simp [hI11, sI, sL, sR, zr]
theorem st11_31 (h : Hp) (o : Nat) : (hI11 h o).2.2 o 31 = some (o + 15) := by
  simp [hI11, sI, sL, sR, zr]
theorem st11_32 (h : Hp) (o : Nat) : (hI11 h o).2.2 o 32 = some (o + 16) := by
  simp [hI11, sI, sL, sR, zr]
theorem st11_33 (h : Hp) (o : Nat) : (hI11 h o).2.2 o 33 = some (o + 17) := by
  simp [hI11, sI, sL, sR, zr]
theorem st11_34 (h : Hp) (o : Nat) : (hI11 h o).2.2 o 34 = some (o + 18) := by
  simp [hI11, sI, sL, sR, zr]
theorem st11_35 (h : Hp) (o : Nat) : (hI11 h o).2.2 o 35 = some (o + 19) := by
  simp [hI11, sI, sL, sR, zr]
theorem st11_36 (h : Hp) (o : Nat) : (hI11 h o).2.2 o 36 = some (o + 20) := by
  simp [hI11, sI, sL, sR, zr]
theorem st11_37 (h : Hp) (o : Nat) : (hI11 h o).2.2 o 37 = some (o + 21) := by
  simp [hI11, sI, sL, sR, zr]
theorem st11_38 (h : Hp) (o : Nat) : (hI11 h o).2.2 o 38 = some (o + 22) := by
  simp [hI11, sI, sL, sR, zr]
theorem st11_39 (h : Hp) (o : Nat) : (hI11 h o).2.2 o 39 = some (o + 23) := by
  simp [hI11, sI, sL, sR, zr]
theorem st11_40 (h : Hp) (o : Nat) : (hI11 h o).2.2 o 40 = some (o + 24) := by
  simp [hI11, sI, sL, sR, zr]
theorem st11_41 (h : Hp) (o : Nat) : (hI11 h o).2.2 o 41 = some (o + 25) := by
  simp [hI11, sI, sL, sR, zr]
theorem st11_42 (h : Hp) (o : Nat) : (hI11 h o).2.2 o 42 = some (o + 26) := by
  simp [hI11, sI, sL, sR, zr]
theorem st11_43 (h : Hp) (o : Nat) : (hI11 h o).2.2 o 43 = some (o + 27) := by
  simp [hI11, sI, sL, sR, zr]
theorem st11_44 (h : Hp) (o : Nat) : (hI11 h o).2.2 o 44 = some (o + 28) := by
  simp [hI11, sI, sL, sR, zr]
theorem st11_46 (h : Hp) (o : Nat) : (hI11 h o).2.2 o 46 = some (o + 29) := by
  simp [hI11, sI, sL, sR, zr]
theorem st11_47 (h : Hp) (o : Nat) : (hI11 h o).2.2 o 47 = some (o + 30) := by
  simp [hI11, sI, sL, sR, zr]
theorem st11_48 (h : Hp) (o : Nat) : (hI11 h o).2.2 o 48 = some (o + 31) := by
  simp [hI11, sI, sL, sR, zr]
theorem st11_49 (h : Hp) (o : Nat) : (hI11 h o).2.2 o 49 = some (o + 32) := by
  simp [hI11, sI, sL, sR, zr]
theorem st11_50 (h : Hp) (o : Nat) : (hI11 h o).2.2 o 50 = some (o + 33) := by
  simp [hI11, sI, sL, sR, zr]
theorem st11_51 (h : Hp) (o : Nat) : (hI11 h o).2.2 o 51 = some (o + 34) := by
  simp [hI11, sI, sL, sR, zr]
theorem st11_52 (h : Hp) (o : Nat) : (hI11 h o).2.2 o 52 = some (o + 35) := by
  simp [hI11, sI, sL, sR, zr]
theorem st11_53 (h : Hp) (o : Nat) : (hI11 h o).2.2 o 53 = some (o + 36) := by
  simp [hI11, sI, sL, sR, zr]
theorem st11_54 (h : Hp) (o : Nat) : (hI11 h o).2.2 o 54 = some (o + 37) := by
  simp [hI11, sI, sL, sR, zr]
theorem st11_55 (h : Hp) (o : Nat) : (hI11 h o).2.2 o 55 = some (o + 38) := by
  simp [hI11, sI, sL, sR, zr]
theorem st11_56 (h : Hp) (o : Nat) : (hI11 h o).2.2 o 56 = some (o + 39) := by
  simp [hI11, sI, sL, sR, zr]
theorem st11_57 (h : Hp) (o : Nat) : (hI11 h o).2.2 o 57 = some (o + 40) := by
  simp [hI11, sI, sL, sR, zr]
theorem st11_58 (h : Hp) (o : Nat) : (hI11 h o).2.2 o 58 = some (o + 41) := by
  simp [hI11, sI, sL, sR, zr]
theorem st11_59 (h : Hp) (o : Nat) : (hI11 h o).2.2 o 59 = some (o + 42) := by
  simp [hI11, sI, sL, sR, zr]
theorem st11_60 (h : Hp) (o : Nat) : (hI11 h o).2.2 o 60 = some (o + 43) := by
  simp [hI11, sI, sL, sR, zr]
theorem st11_61 (h : Hp) (o : Nat) : (hI11 h o).2.2 o 61 = some (o + 44) := by
  simp [hI11, sI, sL, sR, zr]
theorem st11_62 (h : Hp) (o : Nat) : (hI11 h o).2.2 o 62 = some (o + 45) := by
  simp [hI11, sI, sL, sR, zr]
theorem st11_63 (h : Hp) (o : Nat) : (hI11 h o).2.2 o 63 = some (o + 46) := by
  simp [hI11, sI, sL, sR, zr]
theorem st11_64 (h : Hp) (o : Nat) : (hI11 h o).2.2 o 64 = some (o + 47) := by
  simp [hI11, sI, sL, sR, zr]
theorem st11_77 (h : Hp) (o : Nat) : (hI11 h o).2.2 o 77 = some (o + 48) := by
  simp [hI11, sI, sL, sR, zr]
theorem st11_78 (h : Hp) (o : Nat) : (hI11 h o).2.2 o 78 = some (o + 49) := by
  simp [hI11, sI, sL, sR, zr]
theorem st11_80 (h : Hp) (o : Nat) : (hI11 h o).2.2 o 80 = some (o + 50) := by
  simp [hI11, sI, sL, sR, zr]
theorem st11_84 (h : Hp) (o : Nat) : (hI11 h o).2.2 o 84 = some (o + 51) := by
  simp [hI11, sI, sL, sR, zr]
theorem st11_86 (h : Hp) (o : Nat) : (hI11 h o).2.2 o 86 = some (o + 52) := by
  simp [hI11, sI, sL, sR, zr]
theorem hall11 (K : Ly) (h : Hp) (o j : Nat) (hj : j < 87) : tV (fc 23 j) (hI11 h o) o j = tV (fc 11 j) (hI11 h o) o j := by
  by_cases hs : fc 23 j = fc 11 j
  · rw [hs]
  · have hm : j = 1 ∨ j = 2 ∨ j = 3 ∨ j = 4 ∨ j = 5 ∨ j = 6 ∨ j = 7 ∨ j = 8 ∨ j = 18 ∨ j = 19 ∨ j = 25 ∨ j = 28 ∨ j = 29 ∨ j = 30 ∨ j = 31 ∨ j = 32 ∨ j = 33 ∨ j = 34 ∨ j = 35 ∨ j = 36 ∨ j = 37 ∨ j = 38 ∨ j = 39 ∨ j = 40 ∨ j = 41 ∨ j = 42 ∨ j = 43 ∨ j = 44 ∨ j = 46 ∨ j = 47 ∨ j = 48 ∨ j = 49 ∨ j = 50 ∨ j = 51 ∨ j = 52 ∨ j = 53 ∨ j = 54 ∨ j = 55 ∨ j = 56 ∨ j = 57 ∨ j = 58 ∨ j = 59 ∨ j = 60 ∨ j = 61 ∨ j = 62 ∨ j = 63 ∨ j = 64 ∨ j = 77 ∨ j = 78 ∨ j = 80 ∨ j = 84 ∨ j = 86 := (show ∀ j, j < 87 → ¬ fc 23 j = fc 11 j → (j = 1 ∨ j = 2 ∨ j = 3 ∨ j = 4 ∨ j = 5 ∨ j = 6 ∨ j = 7 ∨ j = 8 ∨ j = 18 ∨ j = 19 ∨ j = 25 ∨ j = 28 ∨ j = 29 ∨ j = 30 ∨ j = 31 ∨ j = 32 ∨ j = 33 ∨ j = 34 ∨ j = 35 ∨ j = 36 ∨ j = 37 ∨ j = 38 ∨ j = 39 ∨ j = 40 ∨ j = 41 ∨ j = 42 ∨ j = 43 ∨ j = 44 ∨ j = 46 ∨ j = 47 ∨ j = 48 ∨ j = 49 ∨ j = 50 ∨ j = 51 ∨ j = 52 ∨ j = 53 ∨ j = 54 ∨ j = 55 ∨ j = 56 ∨ j = 57 ∨ j = 58 ∨ j = 59 ∨ j = 60 ∨ j = 61 ∨ j = 62 ∨ j = 63 ∨ j = 64 ∨ j = 77 ∨ j = 78 ∨ j = 80 ∨ j = 84 ∨ j = 86) by decide +kernel) j hj hs
    rcases hm with rfl | rfl | rfl | rfl | rfl | rfl | rfl | rfl | rfl | rfl | rfl | rfl | rfl | rfl | rfl | rfl | rfl | rfl | rfl | rfl | rfl | rfl | rfl | rfl | rfl | rfl | rfl | rfl | rfl | rfl | rfl | rfl | rfl | rfl | rfl | rfl | rfl | rfl | rfl | rfl | rfl | rfl | rfl | rfl | rfl | rfl | rfl | rfl | rfl | rfl | rfl | rfl
    · show va_rf ((hI11 h o).2.2 o 1) = .ref (o + 1)
      rw [st11_1]; rfl
    · show va_rf ((hI11 h o).2.2 o 2) = .ref (o + 2)
      rw [st11_2]; rfl
    · show va_rf ((hI11 h o).2.2 o 3) = .ref (o + 3)
      rw [st11_3]; rfl
    · show va_rf ((hI11 h o).2.2 o 4) = .ref (o + 4)
      rw [st11_4]; rfl
    · show va_rf ((hI11 h o).2.2 o 5) = .ref (o + 5)
      rw [st11_5]; rfl
    · show va_rf ((hI11 h o).2.2 o 6) = .ref (o + 6)
      rw [st11_6]; rfl
    · show va_rf ((hI11 h o).2.2 o 7) = .ref (o + 7)
      rw [st11_7]; rfl
    · show va_rf ((hI11 h o).2.2 o 8) = .ref (o + 8)
      rw [st11_8]; rfl
    · show va_rf ((hI11 h o).2.2 o 18) = .ref (o + 9)
      rw [st11_18]; rfl
    · show va_rf ((hI11 h o).2.2 o 19) = .ref (o + 10)
      rw [st11_19]; rfl
    · show va_rf ((hI11 h o).2.2 o 25) = .ref (o + 11)
      rw [st11_25]; rfl
    · show va_rf ((hI11 h o).2.2 o 28) = .ref (o + 12)
      rw [st11_28]; rfl
    · show va_rf ((hI11 h o).2.2 o 29) = .ref (o + 13)
      rw [st11_29]; rfl
    · show va_rf ((hI11 h o).2.2 o 30) = .ref (o + 14)
      rw [st11_30]; rfl
    · show va_rf ((hI11 h o).2.2 o 31) = .ref (o + 15)
      rw [st11_31]; rfl
    · show va_rf ((hI11 h o).2.2 o 32) = .ref (o + 16)
      rw [st11_32]; rfl
    · show va_rf ((hI11 h o).2.2 o 33) = .ref (o + 17)
      rw [st11_33]; rfl
    · show va_rf ((hI11 h o).2.2 o 34) = .ref (o + 18)
      rw [st11_34]; rfl
    · show va_rf ((hI11 h o).2.2 o 35) = .ref (o + 19)
      rw [st11_35]; rfl
    · show va_rf ((hI11 h o).2.2 o 36) = .ref (o + 20)
      rw [st11_36]; rfl
    · show va_rf ((hI11 h o).2.2 o 37) = .ref (o + 21)
      rw [st11_37]; rfl
    · show va_rf ((hI11 h o).2.2 o 38) = .ref (o + 22)
      rw [st11_38]; rfl
    · show va_rf ((hI11 h o).2.2 o 39) = .ref (o + 23)
      rw [st11_39]; rfl
    · show va_rf ((hI11 h o).2.2 o 40) = .ref (o + 24)
      rw [st11_40]; rfl
    · show va_rf ((hI11 h o).2.2 o 41) = .ref (o + 25)
      rw [st11_41]; rfl
    · show va_rf ((hI11 h o).2.2 o 42) = .ref (o + 26)
      rw [st11_42]; rfl
    · show va_rf ((hI11 h o).2.2 o 43) = .ref (o + 27)
      rw [st11_43]; rfl
    · show va_rf ((hI11 h o).2.2 o 44) = .ref (o + 28)
      rw [st11_44]; rfl
    · show va_rf ((hI11 h o).2.2 o 46) = .ref (o + 29)
      rw [st11_46]; rfl
    · show va_rf ((hI11 h o).2.2 o 47) = .ref (o + 30)
      rw [st11_47]; rfl
    · show va_rf ((hI11 h o).2.2 o 48) = .ref (o + 31)
      rw [st11_48]; rfl
    · show va_rf ((hI11 h o).2.2 o 49) = .ref (o + 32)
      rw [st11_49]; rfl
    · show va_rf ((hI11 h o).2.2 o 50) = .ref (o + 33)
      rw [st11_50]; rfl
    · show va_rf ((hI11 h o).2.2 o 51) = .ref (o + 34)
      rw [st11_51]; rfl
    · show va_rf ((hI11 h o).2.2 o 52) = .ref (o + 35)
      rw [st11_52]; rfl
    · show va_rf ((hI11 h o).2.2 o 53) = .ref (o + 36)
      rw [st11_53]; rfl
    · show va_rf ((hI11 h o).2.2 o 54) = .ref (o + 37)
      rw [st11_54]; rfl
    · show va_rf ((hI11 h o).2.2 o 55) = .ref (o + 38)
      rw [st11_55]; rfl
    · show va_rf ((hI11 h o).2.2 o 56) = .ref (o + 39)
      rw [st11_56]; rfl
    · show va_rf ((hI11 h o).2.2 o 57) = .ref (o + 40)
      rw [st11_57]; rfl
    · show va_rf ((hI11 h o).2.2 o 58) = .ref (o + 41)
      rw [st11_58]; rfl
    · show va_rf ((hI11 h o).2.2 o 59) = .ref (o + 42)
      rw [st11_59]; rfl
    · show va_rf ((hI11 h o).2.2 o 60) = .ref (o + 43)
      rw [st11_60]; rfl
    · show va_rf ((hI11 h o).2.2 o 61) = .ref (o + 44)
      rw [st11_61]; rfl
    · show va_rf ((hI11 h o).2.2 o 62) = .ref (o + 45)
      rw [st11_62]; rfl
    · show va_rf ((hI11 h o).2.2 o 63) = .ref (o + 46)
      rw [st11_63]; rfl
    · show va_rf ((hI11 h o).2.2 o 64) = .ref (o + 47)
      rw [st11_64]; rfl
    · show va_rf ((hI11 h o).2.2 o 77) = .ref (o + 48)
      rw [st11_77]; rfl
    · show va_rf ((hI11 h o).2.2 o 78) = .ref (o + 49)
      rw [st11_78]; rfl
    · show va_rf ((hI11 h o).2.2 o 80) = .ref (o + 50)
      rw [st11_80]; rfl
    · show va_rf ((hI11 h o).2.2 o 84) = .ref (o + 51)
      rw [st11_84]; rfl
    · show va_rf ((hI11 h o).2.2 o 86) = .ref (o + 52)
      rw [st11_86]; rfl
set_option maxHeartbeats 4000000 in
set_option maxRecDepth 100000 in
theorem ci11 {sp : Sp} {K : Ly} {h : Hp} {o : Nat} (hk : K o = some (.inl 23)) : ConI sp y11_init prog_13_method_1_code 1 1 52 54371 o (o + 1) K h (o + 53) (kI11 K o) (hI11 h o) := by
  refine ConI.of (by decide) rfl (by decide) (fun Γ X O Q => ?_)
  refine g_aload_n (n := 0) (sz := o + 1) X (by decide +kernel) 0 rfl ?_
  refine i_obj (idx := 1) (sz := o + 1) X (by decide +kernel) (in_c5 198 rfl rfl) ob_i ob_c (by decide) (Nat.le_of_ble_eq_true rfl) ?_
  refine g_aload_n (n := 0) (sz := o + 1) X (by decide +kernel) 0 rfl ?_
  refine g_sipush (n := 2400) (x := (2400 : Int32)) (sz := o + 1) X (by decide +kernel) (by decide) ?_
  refine i_newa (aty := .byte) (t := 1) (n := 2400) (sz := o + 1) X O (by decide +kernel) (by decide) rfl ac_1 rfl (by decide) (by decide) (by decide) (by decide) (by decide) ?_
  obtain ⟨K1, eK1⟩ : ∃ q, q = kS K (o + 1) (.inr (1, 2400)) := ⟨_, rfl⟩
  rw [← eK1]
  obtain ⟨h1, eh1⟩ : ∃ q, q = zr h (o + 1) := ⟨_, rfl⟩
  rw [← eh1]
  have p1_o : K1 (o) = some (.inl 23) := by rw [eK1]; exact kS_ne hk (by omega)
  have q1 : K1 (o + 1) = some (.inr (1, 2400)) := by rw [eK1]; exact kS_eq
  obtain ⟨h2, eh2⟩ : ∃ q, q = sR h1 o 1 (some (o + 1)) := ⟨_, rfl⟩
  refine i_putF (h' := h2) (ty := .array (.byte)) (sz := o + 2) X O (by decide +kernel) fl11_7r.1 (fun C T N h => by cases h; exact ⟨rfl, by decide +kernel⟩) (fun C T N h => by cases h; rfl) rfl rfl p1_o (by rw [fl11_7r.2, eh2]; exact Wr.r (x := some (o + 1))) ?_
  refine g_aload_n (n := 0) (sz := o + 2) X (by decide +kernel) 0 rfl ?_
  refine g_iconst (n := 4) (x := (4 : Int32)) (sz := o + 2) X (by decide +kernel) (by decide) ?_
  refine i_newa (aty := .int) (t := 0) (n := 4) (sz := o + 2) X O (by decide +kernel) (by decide) rfl ac_0 rfl (by decide) (by decide) (by decide) (by decide) (by decide) ?_
  obtain ⟨K2, eK2⟩ : ∃ q, q = kS K1 (o + 2) (.inr (0, 4)) := ⟨_, rfl⟩
  rw [← eK2]
  obtain ⟨h3, eh3⟩ : ∃ q, q = zr h2 (o + 2) := ⟨_, rfl⟩
  rw [← eh3]
  have p2_o : K2 (o) = some (.inl 23) := by rw [eK2]; exact kS_ne p1_o (by omega)
  have p2_o1 : K2 (o + 1) = some (.inr (1, 2400)) := by rw [eK2]; exact kS_ne q1 (by omega)
  have q2 : K2 (o + 2) = some (.inr (0, 4)) := by rw [eK2]; exact kS_eq
  obtain ⟨h4, eh4⟩ : ∃ q, q = sR h3 o 2 (some (o + 2)) := ⟨_, rfl⟩
  refine i_putF (h' := h4) (ty := .array (.int)) (sz := o + 3) X O (by decide +kernel) fl11_13r.1 (fun C T N h => by cases h; exact ⟨rfl, by decide +kernel⟩) (fun C T N h => by cases h; rfl) rfl rfl p2_o (by rw [fl11_13r.2, eh4]; exact Wr.r (x := some (o + 2))) ?_
  refine g_aload_n (n := 0) (sz := o + 3) X (by decide +kernel) 0 rfl ?_
  refine g_iconst (n := 4) (x := (4 : Int32)) (sz := o + 3) X (by decide +kernel) (by decide) ?_
  refine i_newa (aty := .int) (t := 0) (n := 4) (sz := o + 3) X O (by decide +kernel) (by decide) rfl ac_0 rfl (by decide) (by decide) (by decide) (by decide) (by decide) ?_
  obtain ⟨K3, eK3⟩ : ∃ q, q = kS K2 (o + 3) (.inr (0, 4)) := ⟨_, rfl⟩
  rw [← eK3]
  obtain ⟨h5, eh5⟩ : ∃ q, q = zr h4 (o + 3) := ⟨_, rfl⟩
  rw [← eh5]
  have p3_o : K3 (o) = some (.inl 23) := by rw [eK3]; exact kS_ne p2_o (by omega)
  have p3_o1 : K3 (o + 1) = some (.inr (1, 2400)) := by rw [eK3]; exact kS_ne p2_o1 (by omega)
  have p3_o2 : K3 (o + 2) = some (.inr (0, 4)) := by rw [eK3]; exact kS_ne q2 (by omega)
  have q3 : K3 (o + 3) = some (.inr (0, 4)) := by rw [eK3]; exact kS_eq
  obtain ⟨h6, eh6⟩ : ∃ q, q = sR h5 o 3 (some (o + 3)) := ⟨_, rfl⟩
  refine i_putF (h' := h6) (ty := .array (.int)) (sz := o + 4) X O (by decide +kernel) fl11_17r.1 (fun C T N h => by cases h; exact ⟨rfl, by decide +kernel⟩) (fun C T N h => by cases h; rfl) rfl rfl p3_o (by rw [fl11_17r.2, eh6]; exact Wr.r (x := some (o + 3))) ?_
  refine g_aload_n (n := 0) (sz := o + 4) X (by decide +kernel) 0 rfl ?_
  refine g_iconst (n := 4) (x := (4 : Int32)) (sz := o + 4) X (by decide +kernel) (by decide) ?_
  refine i_newa (aty := .int) (t := 0) (n := 4) (sz := o + 4) X O (by decide +kernel) (by decide) rfl ac_0 rfl (by decide) (by decide) (by decide) (by decide) (by decide) ?_
  obtain ⟨K4, eK4⟩ : ∃ q, q = kS K3 (o + 4) (.inr (0, 4)) := ⟨_, rfl⟩
  rw [← eK4]
  obtain ⟨h7, eh7⟩ : ∃ q, q = zr h6 (o + 4) := ⟨_, rfl⟩
  rw [← eh7]
  have p4_o : K4 (o) = some (.inl 23) := by rw [eK4]; exact kS_ne p3_o (by omega)
  have p4_o1 : K4 (o + 1) = some (.inr (1, 2400)) := by rw [eK4]; exact kS_ne p3_o1 (by omega)
  have p4_o2 : K4 (o + 2) = some (.inr (0, 4)) := by rw [eK4]; exact kS_ne p3_o2 (by omega)
  have p4_o3 : K4 (o + 3) = some (.inr (0, 4)) := by rw [eK4]; exact kS_ne q3 (by omega)
  have q4 : K4 (o + 4) = some (.inr (0, 4)) := by rw [eK4]; exact kS_eq
  obtain ⟨h8, eh8⟩ : ∃ q, q = sR h7 o 4 (some (o + 4)) := ⟨_, rfl⟩
  refine i_putF (h' := h8) (ty := .array (.int)) (sz := o + 5) X O (by decide +kernel) fl11_20r.1 (fun C T N h => by cases h; exact ⟨rfl, by decide +kernel⟩) (fun C T N h => by cases h; rfl) rfl rfl p4_o (by rw [fl11_20r.2, eh8]; exact Wr.r (x := some (o + 4))) ?_
  refine g_aload_n (n := 0) (sz := o + 5) X (by decide +kernel) 0 rfl ?_
  refine g_bipush (n := 12) (x := (12 : Int32)) (sz := o + 5) X (by decide +kernel) (by decide) ?_
  refine i_newa (aty := .int) (t := 0) (n := 12) (sz := o + 5) X O (by decide +kernel) (by decide) rfl ac_0 rfl (by decide) (by decide) (by decide) (by decide) (by decide) ?_
  obtain ⟨K5, eK5⟩ : ∃ q, q = kS K4 (o + 5) (.inr (0, 12)) := ⟨_, rfl⟩
  rw [← eK5]
  obtain ⟨h9, eh9⟩ : ∃ q, q = zr h8 (o + 5) := ⟨_, rfl⟩
  rw [← eh9]
  have p5_o : K5 (o) = some (.inl 23) := by rw [eK5]; exact kS_ne p4_o (by omega)
  have p5_o1 : K5 (o + 1) = some (.inr (1, 2400)) := by rw [eK5]; exact kS_ne p4_o1 (by omega)
  have p5_o2 : K5 (o + 2) = some (.inr (0, 4)) := by rw [eK5]; exact kS_ne p4_o2 (by omega)
  have p5_o3 : K5 (o + 3) = some (.inr (0, 4)) := by rw [eK5]; exact kS_ne p4_o3 (by omega)
  have p5_o4 : K5 (o + 4) = some (.inr (0, 4)) := by rw [eK5]; exact kS_ne q4 (by omega)
  have q5 : K5 (o + 5) = some (.inr (0, 12)) := by rw [eK5]; exact kS_eq
  obtain ⟨h10, eh10⟩ : ∃ q, q = sR h9 o 5 (some (o + 5)) := ⟨_, rfl⟩
  refine i_putF (h' := h10) (ty := .array (.int)) (sz := o + 6) X O (by decide +kernel) fl11_23r.1 (fun C T N h => by cases h; exact ⟨rfl, by decide +kernel⟩) (fun C T N h => by cases h; rfl) rfl rfl p5_o (by rw [fl11_23r.2, eh10]; exact Wr.r (x := some (o + 5))) ?_
  refine g_aload_n (n := 0) (sz := o + 6) X (by decide +kernel) 0 rfl ?_
  refine g_sipush (n := 976) (x := (976 : Int32)) (sz := o + 6) X (by decide +kernel) (by decide) ?_
  refine i_newa (aty := .int) (t := 0) (n := 976) (sz := o + 6) X O (by decide +kernel) (by decide) rfl ac_0 rfl (by decide) (by decide) (by decide) (by decide) (by decide) ?_
  obtain ⟨K6, eK6⟩ : ∃ q, q = kS K5 (o + 6) (.inr (0, 976)) := ⟨_, rfl⟩
  rw [← eK6]
  obtain ⟨h11, eh11⟩ : ∃ q, q = zr h10 (o + 6) := ⟨_, rfl⟩
  rw [← eh11]
  have p6_o : K6 (o) = some (.inl 23) := by rw [eK6]; exact kS_ne p5_o (by omega)
  have p6_o1 : K6 (o + 1) = some (.inr (1, 2400)) := by rw [eK6]; exact kS_ne p5_o1 (by omega)
  have p6_o2 : K6 (o + 2) = some (.inr (0, 4)) := by rw [eK6]; exact kS_ne p5_o2 (by omega)
  have p6_o3 : K6 (o + 3) = some (.inr (0, 4)) := by rw [eK6]; exact kS_ne p5_o3 (by omega)
  have p6_o4 : K6 (o + 4) = some (.inr (0, 4)) := by rw [eK6]; exact kS_ne p5_o4 (by omega)
  have p6_o5 : K6 (o + 5) = some (.inr (0, 12)) := by rw [eK6]; exact kS_ne q5 (by omega)
  have q6 : K6 (o + 6) = some (.inr (0, 976)) := by rw [eK6]; exact kS_eq
  obtain ⟨h12, eh12⟩ : ∃ q, q = sR h11 o 6 (some (o + 6)) := ⟨_, rfl⟩
  refine i_putF (h' := h12) (ty := .array (.int)) (sz := o + 7) X O (by decide +kernel) fl11_26r.1 (fun C T N h => by cases h; exact ⟨rfl, by decide +kernel⟩) (fun C T N h => by cases h; rfl) rfl rfl p6_o (by rw [fl11_26r.2, eh12]; exact Wr.r (x := some (o + 6))) ?_
  refine g_aload_n (n := 0) (sz := o + 7) X (by decide +kernel) 0 rfl ?_
  refine g_sipush (n := 968) (x := (968 : Int32)) (sz := o + 7) X (by decide +kernel) (by decide) ?_
  refine i_newa (aty := .int) (t := 0) (n := 968) (sz := o + 7) X O (by decide +kernel) (by decide) rfl ac_0 rfl (by decide) (by decide) (by decide) (by decide) (by decide) ?_
  obtain ⟨K7, eK7⟩ : ∃ q, q = kS K6 (o + 7) (.inr (0, 968)) := ⟨_, rfl⟩
  rw [← eK7]
  obtain ⟨h13, eh13⟩ : ∃ q, q = zr h12 (o + 7) := ⟨_, rfl⟩
  rw [← eh13]
  have p7_o : K7 (o) = some (.inl 23) := by rw [eK7]; exact kS_ne p6_o (by omega)
  have p7_o1 : K7 (o + 1) = some (.inr (1, 2400)) := by rw [eK7]; exact kS_ne p6_o1 (by omega)
  have p7_o2 : K7 (o + 2) = some (.inr (0, 4)) := by rw [eK7]; exact kS_ne p6_o2 (by omega)
  have p7_o3 : K7 (o + 3) = some (.inr (0, 4)) := by rw [eK7]; exact kS_ne p6_o3 (by omega)
  have p7_o4 : K7 (o + 4) = some (.inr (0, 4)) := by rw [eK7]; exact kS_ne p6_o4 (by omega)
  have p7_o5 : K7 (o + 5) = some (.inr (0, 12)) := by rw [eK7]; exact kS_ne p6_o5 (by omega)
  have p7_o6 : K7 (o + 6) = some (.inr (0, 976)) := by rw [eK7]; exact kS_ne q6 (by omega)
  have q7 : K7 (o + 7) = some (.inr (0, 968)) := by rw [eK7]; exact kS_eq
  obtain ⟨h14, eh14⟩ : ∃ q, q = sR h13 o 7 (some (o + 7)) := ⟨_, rfl⟩
  refine i_putF (h' := h14) (ty := .array (.int)) (sz := o + 8) X O (by decide +kernel) fl11_29r.1 (fun C T N h => by cases h; exact ⟨rfl, by decide +kernel⟩) (fun C T N h => by cases h; rfl) rfl rfl p7_o (by rw [fl11_29r.2, eh14]; exact Wr.r (x := some (o + 7))) ?_
  refine g_aload_n (n := 0) (sz := o + 8) X (by decide +kernel) 0 rfl ?_
  refine g_sipush (n := 136) (x := (136 : Int32)) (sz := o + 8) X (by decide +kernel) (by decide) ?_
  refine i_newa (aty := .int) (t := 0) (n := 136) (sz := o + 8) X O (by decide +kernel) (by decide) rfl ac_0 rfl (by decide) (by decide) (by decide) (by decide) (by decide) ?_
  obtain ⟨K8, eK8⟩ : ∃ q, q = kS K7 (o + 8) (.inr (0, 136)) := ⟨_, rfl⟩
  rw [← eK8]
  obtain ⟨h15, eh15⟩ : ∃ q, q = zr h14 (o + 8) := ⟨_, rfl⟩
  rw [← eh15]
  have p8_o : K8 (o) = some (.inl 23) := by rw [eK8]; exact kS_ne p7_o (by omega)
  have p8_o1 : K8 (o + 1) = some (.inr (1, 2400)) := by rw [eK8]; exact kS_ne p7_o1 (by omega)
  have p8_o2 : K8 (o + 2) = some (.inr (0, 4)) := by rw [eK8]; exact kS_ne p7_o2 (by omega)
  have p8_o3 : K8 (o + 3) = some (.inr (0, 4)) := by rw [eK8]; exact kS_ne p7_o3 (by omega)
  have p8_o4 : K8 (o + 4) = some (.inr (0, 4)) := by rw [eK8]; exact kS_ne p7_o4 (by omega)
  have p8_o5 : K8 (o + 5) = some (.inr (0, 12)) := by rw [eK8]; exact kS_ne p7_o5 (by omega)
  have p8_o6 : K8 (o + 6) = some (.inr (0, 976)) := by rw [eK8]; exact kS_ne p7_o6 (by omega)
  have p8_o7 : K8 (o + 7) = some (.inr (0, 968)) := by rw [eK8]; exact kS_ne q7 (by omega)
  have q8 : K8 (o + 8) = some (.inr (0, 136)) := by rw [eK8]; exact kS_eq
  obtain ⟨h16, eh16⟩ : ∃ q, q = sR h15 o 8 (some (o + 8)) := ⟨_, rfl⟩
  refine i_putF (h' := h16) (ty := .array (.int)) (sz := o + 9) X O (by decide +kernel) fl11_32r.1 (fun C T N h => by cases h; exact ⟨rfl, by decide +kernel⟩) (fun C T N h => by cases h; rfl) rfl rfl p8_o (by rw [fl11_32r.2, eh16]; exact Wr.r (x := some (o + 8))) ?_
  refine g_aload_n (n := 0) (sz := o + 9) X (by decide +kernel) 0 rfl ?_
  refine g_bipush (n := 122) (x := (122 : Int32)) (sz := o + 9) X (by decide +kernel) (by decide) ?_
  refine i_newa (aty := .int) (t := 0) (n := 122) (sz := o + 9) X O (by decide +kernel) (by decide) rfl ac_0 rfl (by decide) (by decide) (by decide) (by decide) (by decide) ?_
  obtain ⟨K9, eK9⟩ : ∃ q, q = kS K8 (o + 9) (.inr (0, 122)) := ⟨_, rfl⟩
  rw [← eK9]
  obtain ⟨h17, eh17⟩ : ∃ q, q = zr h16 (o + 9) := ⟨_, rfl⟩
  rw [← eh17]
  have p9_o : K9 (o) = some (.inl 23) := by rw [eK9]; exact kS_ne p8_o (by omega)
  have p9_o1 : K9 (o + 1) = some (.inr (1, 2400)) := by rw [eK9]; exact kS_ne p8_o1 (by omega)
  have p9_o2 : K9 (o + 2) = some (.inr (0, 4)) := by rw [eK9]; exact kS_ne p8_o2 (by omega)
  have p9_o3 : K9 (o + 3) = some (.inr (0, 4)) := by rw [eK9]; exact kS_ne p8_o3 (by omega)
  have p9_o4 : K9 (o + 4) = some (.inr (0, 4)) := by rw [eK9]; exact kS_ne p8_o4 (by omega)
  have p9_o5 : K9 (o + 5) = some (.inr (0, 12)) := by rw [eK9]; exact kS_ne p8_o5 (by omega)
  have p9_o6 : K9 (o + 6) = some (.inr (0, 976)) := by rw [eK9]; exact kS_ne p8_o6 (by omega)
  have p9_o7 : K9 (o + 7) = some (.inr (0, 968)) := by rw [eK9]; exact kS_ne p8_o7 (by omega)
  have p9_o8 : K9 (o + 8) = some (.inr (0, 136)) := by rw [eK9]; exact kS_ne q8 (by omega)
  have q9 : K9 (o + 9) = some (.inr (0, 122)) := by rw [eK9]; exact kS_eq
  obtain ⟨h18, eh18⟩ : ∃ q, q = sR h17 o 18 (some (o + 9)) := ⟨_, rfl⟩
  refine i_putF (h' := h18) (ty := .array (.int)) (sz := o + 10) X O (by decide +kernel) fl11_35r.1 (fun C T N h => by cases h; exact ⟨rfl, by decide +kernel⟩) (fun C T N h => by cases h; rfl) rfl rfl p9_o (by rw [fl11_35r.2, eh18]; exact Wr.r (x := some (o + 9))) ?_
  refine g_aload_n (n := 0) (sz := o + 10) X (by decide +kernel) 0 rfl ?_
  refine g_iconst (n := 4) (x := (4 : Int32)) (sz := o + 10) X (by decide +kernel) (by decide) ?_
  refine i_newa (aty := .int) (t := 0) (n := 4) (sz := o + 10) X O (by decide +kernel) (by decide) rfl ac_0 rfl (by decide) (by decide) (by decide) (by decide) (by decide) ?_
  obtain ⟨K10, eK10⟩ : ∃ q, q = kS K9 (o + 10) (.inr (0, 4)) := ⟨_, rfl⟩
  rw [← eK10]
  obtain ⟨h19, eh19⟩ : ∃ q, q = zr h18 (o + 10) := ⟨_, rfl⟩
  rw [← eh19]
  have p10_o : K10 (o) = some (.inl 23) := by rw [eK10]; exact kS_ne p9_o (by omega)
  have p10_o1 : K10 (o + 1) = some (.inr (1, 2400)) := by rw [eK10]; exact kS_ne p9_o1 (by omega)
  have p10_o2 : K10 (o + 2) = some (.inr (0, 4)) := by rw [eK10]; exact kS_ne p9_o2 (by omega)
  have p10_o3 : K10 (o + 3) = some (.inr (0, 4)) := by rw [eK10]; exact kS_ne p9_o3 (by omega)
  have p10_o4 : K10 (o + 4) = some (.inr (0, 4)) := by rw [eK10]; exact kS_ne p9_o4 (by omega)
  have p10_o5 : K10 (o + 5) = some (.inr (0, 12)) := by rw [eK10]; exact kS_ne p9_o5 (by omega)
  have p10_o6 : K10 (o + 6) = some (.inr (0, 976)) := by rw [eK10]; exact kS_ne p9_o6 (by omega)
  have p10_o7 : K10 (o + 7) = some (.inr (0, 968)) := by rw [eK10]; exact kS_ne p9_o7 (by omega)
  have p10_o8 : K10 (o + 8) = some (.inr (0, 136)) := by rw [eK10]; exact kS_ne p9_o8 (by omega)
  have p10_o9 : K10 (o + 9) = some (.inr (0, 122)) := by rw [eK10]; exact kS_ne q9 (by omega)
  have q10 : K10 (o + 10) = some (.inr (0, 4)) := by rw [eK10]; exact kS_eq
  obtain ⟨h20, eh20⟩ : ∃ q, q = sR h19 o 19 (some (o + 10)) := ⟨_, rfl⟩
  refine i_putF (h' := h20) (ty := .array (.int)) (sz := o + 11) X O (by decide +kernel) fl11_38r.1 (fun C T N h => by cases h; exact ⟨rfl, by decide +kernel⟩) (fun C T N h => by cases h; rfl) rfl rfl p10_o (by rw [fl11_38r.2, eh20]; exact Wr.r (x := some (o + 10))) ?_
  refine g_aload_n (n := 0) (sz := o + 11) X (by decide +kernel) 0 rfl ?_
  refine g_bipush (n := 36) (x := (36 : Int32)) (sz := o + 11) X (by decide +kernel) (by decide) ?_
  refine i_newa (aty := .int) (t := 0) (n := 36) (sz := o + 11) X O (by decide +kernel) (by decide) rfl ac_0 rfl (by decide) (by decide) (by decide) (by decide) (by decide) ?_
  obtain ⟨K11, eK11⟩ : ∃ q, q = kS K10 (o + 11) (.inr (0, 36)) := ⟨_, rfl⟩
  rw [← eK11]
  obtain ⟨h21, eh21⟩ : ∃ q, q = zr h20 (o + 11) := ⟨_, rfl⟩
  rw [← eh21]
  have p11_o : K11 (o) = some (.inl 23) := by rw [eK11]; exact kS_ne p10_o (by omega)
  have p11_o1 : K11 (o + 1) = some (.inr (1, 2400)) := by rw [eK11]; exact kS_ne p10_o1 (by omega)
  have p11_o2 : K11 (o + 2) = some (.inr (0, 4)) := by rw [eK11]; exact kS_ne p10_o2 (by omega)
  have p11_o3 : K11 (o + 3) = some (.inr (0, 4)) := by rw [eK11]; exact kS_ne p10_o3 (by omega)
  have p11_o4 : K11 (o + 4) = some (.inr (0, 4)) := by rw [eK11]; exact kS_ne p10_o4 (by omega)
  have p11_o5 : K11 (o + 5) = some (.inr (0, 12)) := by rw [eK11]; exact kS_ne p10_o5 (by omega)
  have p11_o6 : K11 (o + 6) = some (.inr (0, 976)) := by rw [eK11]; exact kS_ne p10_o6 (by omega)
  have p11_o7 : K11 (o + 7) = some (.inr (0, 968)) := by rw [eK11]; exact kS_ne p10_o7 (by omega)
  have p11_o8 : K11 (o + 8) = some (.inr (0, 136)) := by rw [eK11]; exact kS_ne p10_o8 (by omega)
  have p11_o9 : K11 (o + 9) = some (.inr (0, 122)) := by rw [eK11]; exact kS_ne p10_o9 (by omega)
  have p11_o10 : K11 (o + 10) = some (.inr (0, 4)) := by rw [eK11]; exact kS_ne q10 (by omega)
  have q11 : K11 (o + 11) = some (.inr (0, 36)) := by rw [eK11]; exact kS_eq
  obtain ⟨h22, eh22⟩ : ∃ q, q = sR h21 o 25 (some (o + 11)) := ⟨_, rfl⟩
  refine i_putF (h' := h22) (ty := .array (.int)) (sz := o + 12) X O (by decide +kernel) fl11_41r.1 (fun C T N h => by cases h; exact ⟨rfl, by decide +kernel⟩) (fun C T N h => by cases h; rfl) rfl rfl p11_o (by rw [fl11_41r.2, eh22]; exact Wr.r (x := some (o + 11))) ?_
  refine g_aload_n (n := 0) (sz := o + 12) X (by decide +kernel) 0 rfl ?_
  refine g_bipush (n := 6) (x := (6 : Int32)) (sz := o + 12) X (by decide +kernel) (by decide) ?_
  refine i_newa (aty := .long) (t := 3) (n := 6) (sz := o + 12) X O (by decide +kernel) (by decide) rfl ac_3 rfl (by decide) (by decide) (by decide) (by decide) (by decide) ?_
  obtain ⟨K12, eK12⟩ : ∃ q, q = kS K11 (o + 12) (.inr (3, 6)) := ⟨_, rfl⟩
  rw [← eK12]
  obtain ⟨h23, eh23⟩ : ∃ q, q = zr h22 (o + 12) := ⟨_, rfl⟩
  rw [← eh23]
  have p12_o : K12 (o) = some (.inl 23) := by rw [eK12]; exact kS_ne p11_o (by omega)
  have p12_o1 : K12 (o + 1) = some (.inr (1, 2400)) := by rw [eK12]; exact kS_ne p11_o1 (by omega)
  have p12_o2 : K12 (o + 2) = some (.inr (0, 4)) := by rw [eK12]; exact kS_ne p11_o2 (by omega)
  have p12_o3 : K12 (o + 3) = some (.inr (0, 4)) := by rw [eK12]; exact kS_ne p11_o3 (by omega)
  have p12_o4 : K12 (o + 4) = some (.inr (0, 4)) := by rw [eK12]; exact kS_ne p11_o4 (by omega)
  have p12_o5 : K12 (o + 5) = some (.inr (0, 12)) := by rw [eK12]; exact kS_ne p11_o5 (by omega)
  have p12_o6 : K12 (o + 6) = some (.inr (0, 976)) := by rw [eK12]; exact kS_ne p11_o6 (by omega)
  have p12_o7 : K12 (o + 7) = some (.inr (0, 968)) := by rw [eK12]; exact kS_ne p11_o7 (by omega)
  have p12_o8 : K12 (o + 8) = some (.inr (0, 136)) := by rw [eK12]; exact kS_ne p11_o8 (by omega)
  have p12_o9 : K12 (o + 9) = some (.inr (0, 122)) := by rw [eK12]; exact kS_ne p11_o9 (by omega)
  have p12_o10 : K12 (o + 10) = some (.inr (0, 4)) := by rw [eK12]; exact kS_ne p11_o10 (by omega)
  have p12_o11 : K12 (o + 11) = some (.inr (0, 36)) := by rw [eK12]; exact kS_ne q11 (by omega)
  have q12 : K12 (o + 12) = some (.inr (3, 6)) := by rw [eK12]; exact kS_eq
  obtain ⟨h24, eh24⟩ : ∃ q, q = sR h23 o 28 (some (o + 12)) := ⟨_, rfl⟩
  refine i_putF (h' := h24) (ty := .array (.long)) (sz := o + 13) X O (by decide +kernel) fl11_44r.1 (fun C T N h => by cases h; exact ⟨rfl, by decide +kernel⟩) (fun C T N h => by cases h; rfl) rfl rfl p12_o (by rw [fl11_44r.2, eh24]; exact Wr.r (x := some (o + 12))) ?_
  refine g_aload_n (n := 0) (sz := o + 13) X (by decide +kernel) 0 rfl ?_
  refine g_bipush (n := 36) (x := (36 : Int32)) (sz := o + 13) X (by decide +kernel) (by decide) ?_
  refine i_newa (aty := .int) (t := 0) (n := 36) (sz := o + 13) X O (by decide +kernel) (by decide) rfl ac_0 rfl (by decide) (by decide) (by decide) (by decide) (by decide) ?_
  obtain ⟨K13, eK13⟩ : ∃ q, q = kS K12 (o + 13) (.inr (0, 36)) := ⟨_, rfl⟩
  rw [← eK13]
  obtain ⟨h25, eh25⟩ : ∃ q, q = zr h24 (o + 13) := ⟨_, rfl⟩
  rw [← eh25]
  have p13_o : K13 (o) = some (.inl 23) := by rw [eK13]; exact kS_ne p12_o (by omega)
  have p13_o1 : K13 (o + 1) = some (.inr (1, 2400)) := by rw [eK13]; exact kS_ne p12_o1 (by omega)
  have p13_o2 : K13 (o + 2) = some (.inr (0, 4)) := by rw [eK13]; exact kS_ne p12_o2 (by omega)
  have p13_o3 : K13 (o + 3) = some (.inr (0, 4)) := by rw [eK13]; exact kS_ne p12_o3 (by omega)
  have p13_o4 : K13 (o + 4) = some (.inr (0, 4)) := by rw [eK13]; exact kS_ne p12_o4 (by omega)
  have p13_o5 : K13 (o + 5) = some (.inr (0, 12)) := by rw [eK13]; exact kS_ne p12_o5 (by omega)
  have p13_o6 : K13 (o + 6) = some (.inr (0, 976)) := by rw [eK13]; exact kS_ne p12_o6 (by omega)
  have p13_o7 : K13 (o + 7) = some (.inr (0, 968)) := by rw [eK13]; exact kS_ne p12_o7 (by omega)
  have p13_o8 : K13 (o + 8) = some (.inr (0, 136)) := by rw [eK13]; exact kS_ne p12_o8 (by omega)
  have p13_o9 : K13 (o + 9) = some (.inr (0, 122)) := by rw [eK13]; exact kS_ne p12_o9 (by omega)
  have p13_o10 : K13 (o + 10) = some (.inr (0, 4)) := by rw [eK13]; exact kS_ne p12_o10 (by omega)
  have p13_o11 : K13 (o + 11) = some (.inr (0, 36)) := by rw [eK13]; exact kS_ne p12_o11 (by omega)
  have p13_o12 : K13 (o + 12) = some (.inr (3, 6)) := by rw [eK13]; exact kS_ne q12 (by omega)
  have q13 : K13 (o + 13) = some (.inr (0, 36)) := by rw [eK13]; exact kS_eq
  obtain ⟨h26, eh26⟩ : ∃ q, q = sR h25 o 29 (some (o + 13)) := ⟨_, rfl⟩
  refine i_putF (h' := h26) (ty := .array (.int)) (sz := o + 14) X O (by decide +kernel) fl11_48r.1 (fun C T N h => by cases h; exact ⟨rfl, by decide +kernel⟩) (fun C T N h => by cases h; rfl) rfl rfl p13_o (by rw [fl11_48r.2, eh26]; exact Wr.r (x := some (o + 13))) ?_
  refine g_aload_n (n := 0) (sz := o + 14) X (by decide +kernel) 0 rfl ?_
  refine g_bipush (n := 6) (x := (6 : Int32)) (sz := o + 14) X (by decide +kernel) (by decide) ?_
  refine i_newa (aty := .int) (t := 0) (n := 6) (sz := o + 14) X O (by decide +kernel) (by decide) rfl ac_0 rfl (by decide) (by decide) (by decide) (by decide) (by decide) ?_
  obtain ⟨K14, eK14⟩ : ∃ q, q = kS K13 (o + 14) (.inr (0, 6)) := ⟨_, rfl⟩
  rw [← eK14]
  obtain ⟨h27, eh27⟩ : ∃ q, q = zr h26 (o + 14) := ⟨_, rfl⟩
  rw [← eh27]
  have p14_o : K14 (o) = some (.inl 23) := by rw [eK14]; exact kS_ne p13_o (by omega)
  have p14_o1 : K14 (o + 1) = some (.inr (1, 2400)) := by rw [eK14]; exact kS_ne p13_o1 (by omega)
  have p14_o2 : K14 (o + 2) = some (.inr (0, 4)) := by rw [eK14]; exact kS_ne p13_o2 (by omega)
  have p14_o3 : K14 (o + 3) = some (.inr (0, 4)) := by rw [eK14]; exact kS_ne p13_o3 (by omega)
  have p14_o4 : K14 (o + 4) = some (.inr (0, 4)) := by rw [eK14]; exact kS_ne p13_o4 (by omega)
  have p14_o5 : K14 (o + 5) = some (.inr (0, 12)) := by rw [eK14]; exact kS_ne p13_o5 (by omega)
  have p14_o6 : K14 (o + 6) = some (.inr (0, 976)) := by rw [eK14]; exact kS_ne p13_o6 (by omega)
  have p14_o7 : K14 (o + 7) = some (.inr (0, 968)) := by rw [eK14]; exact kS_ne p13_o7 (by omega)
  have p14_o8 : K14 (o + 8) = some (.inr (0, 136)) := by rw [eK14]; exact kS_ne p13_o8 (by omega)
  have p14_o9 : K14 (o + 9) = some (.inr (0, 122)) := by rw [eK14]; exact kS_ne p13_o9 (by omega)
  have p14_o10 : K14 (o + 10) = some (.inr (0, 4)) := by rw [eK14]; exact kS_ne p13_o10 (by omega)
  have p14_o11 : K14 (o + 11) = some (.inr (0, 36)) := by rw [eK14]; exact kS_ne p13_o11 (by omega)
  have p14_o12 : K14 (o + 12) = some (.inr (3, 6)) := by rw [eK14]; exact kS_ne p13_o12 (by omega)
  have p14_o13 : K14 (o + 13) = some (.inr (0, 36)) := by rw [eK14]; exact kS_ne q13 (by omega)
  have q14 : K14 (o + 14) = some (.inr (0, 6)) := by rw [eK14]; exact kS_eq
  obtain ⟨h28, eh28⟩ : ∃ q, q = sR h27 o 30 (some (o + 14)) := ⟨_, rfl⟩
  refine i_putF (h' := h28) (ty := .array (.int)) (sz := o + 15) X O (by decide +kernel) fl11_51r.1 (fun C T N h => by cases h; exact ⟨rfl, by decide +kernel⟩) (fun C T N h => by cases h; rfl) rfl rfl p14_o (by rw [fl11_51r.2, eh28]; exact Wr.r (x := some (o + 14))) ?_
  refine g_aload_n (n := 0) (sz := o + 15) X (by decide +kernel) 0 rfl ?_
  refine g_bipush (n := 36) (x := (36 : Int32)) (sz := o + 15) X (by decide +kernel) (by decide) ?_
  refine i_newa (aty := .int) (t := 0) (n := 36) (sz := o + 15) X O (by decide +kernel) (by decide) rfl ac_0 rfl (by decide) (by decide) (by decide) (by decide) (by decide) ?_
  obtain ⟨K15, eK15⟩ : ∃ q, q = kS K14 (o + 15) (.inr (0, 36)) := ⟨_, rfl⟩
  rw [← eK15]
  obtain ⟨h29, eh29⟩ : ∃ q, q = zr h28 (o + 15) := ⟨_, rfl⟩
  rw [← eh29]
  have p15_o : K15 (o) = some (.inl 23) := by rw [eK15]; exact kS_ne p14_o (by omega)
  have p15_o1 : K15 (o + 1) = some (.inr (1, 2400)) := by rw [eK15]; exact kS_ne p14_o1 (by omega)
  have p15_o2 : K15 (o + 2) = some (.inr (0, 4)) := by rw [eK15]; exact kS_ne p14_o2 (by omega)
  have p15_o3 : K15 (o + 3) = some (.inr (0, 4)) := by rw [eK15]; exact kS_ne p14_o3 (by omega)
  have p15_o4 : K15 (o + 4) = some (.inr (0, 4)) := by rw [eK15]; exact kS_ne p14_o4 (by omega)
  have p15_o5 : K15 (o + 5) = some (.inr (0, 12)) := by rw [eK15]; exact kS_ne p14_o5 (by omega)
  have p15_o6 : K15 (o + 6) = some (.inr (0, 976)) := by rw [eK15]; exact kS_ne p14_o6 (by omega)
  have p15_o7 : K15 (o + 7) = some (.inr (0, 968)) := by rw [eK15]; exact kS_ne p14_o7 (by omega)
  have p15_o8 : K15 (o + 8) = some (.inr (0, 136)) := by rw [eK15]; exact kS_ne p14_o8 (by omega)
  have p15_o9 : K15 (o + 9) = some (.inr (0, 122)) := by rw [eK15]; exact kS_ne p14_o9 (by omega)
  have p15_o10 : K15 (o + 10) = some (.inr (0, 4)) := by rw [eK15]; exact kS_ne p14_o10 (by omega)
  have p15_o11 : K15 (o + 11) = some (.inr (0, 36)) := by rw [eK15]; exact kS_ne p14_o11 (by omega)
  have p15_o12 : K15 (o + 12) = some (.inr (3, 6)) := by rw [eK15]; exact kS_ne p14_o12 (by omega)
  have p15_o13 : K15 (o + 13) = some (.inr (0, 36)) := by rw [eK15]; exact kS_ne p14_o13 (by omega)
  have p15_o14 : K15 (o + 14) = some (.inr (0, 6)) := by rw [eK15]; exact kS_ne q14 (by omega)
  have q15 : K15 (o + 15) = some (.inr (0, 36)) := by rw [eK15]; exact kS_eq
  obtain ⟨h30, eh30⟩ : ∃ q, q = sR h29 o 31 (some (o + 15)) := ⟨_, rfl⟩
  refine i_putF (h' := h30) (ty := .array (.int)) (sz := o + 16) X O (by decide +kernel) fl11_54r.1 (fun C T N h => by cases h; exact ⟨rfl, by decide +kernel⟩) (fun C T N h => by cases h; rfl) rfl rfl p15_o (by rw [fl11_54r.2, eh30]; exact Wr.r (x := some (o + 15))) ?_
  refine g_aload_n (n := 0) (sz := o + 16) X (by decide +kernel) 0 rfl ?_
  refine g_bipush (n := 36) (x := (36 : Int32)) (sz := o + 16) X (by decide +kernel) (by decide) ?_
  refine i_newa (aty := .int) (t := 0) (n := 36) (sz := o + 16) X O (by decide +kernel) (by decide) rfl ac_0 rfl (by decide) (by decide) (by decide) (by decide) (by decide) ?_
  obtain ⟨K16, eK16⟩ : ∃ q, q = kS K15 (o + 16) (.inr (0, 36)) := ⟨_, rfl⟩
  rw [← eK16]
  obtain ⟨h31, eh31⟩ : ∃ q, q = zr h30 (o + 16) := ⟨_, rfl⟩
  rw [← eh31]
  have p16_o : K16 (o) = some (.inl 23) := by rw [eK16]; exact kS_ne p15_o (by omega)
  have p16_o1 : K16 (o + 1) = some (.inr (1, 2400)) := by rw [eK16]; exact kS_ne p15_o1 (by omega)
  have p16_o2 : K16 (o + 2) = some (.inr (0, 4)) := by rw [eK16]; exact kS_ne p15_o2 (by omega)
  have p16_o3 : K16 (o + 3) = some (.inr (0, 4)) := by rw [eK16]; exact kS_ne p15_o3 (by omega)
  have p16_o4 : K16 (o + 4) = some (.inr (0, 4)) := by rw [eK16]; exact kS_ne p15_o4 (by omega)
  have p16_o5 : K16 (o + 5) = some (.inr (0, 12)) := by rw [eK16]; exact kS_ne p15_o5 (by omega)
  have p16_o6 : K16 (o + 6) = some (.inr (0, 976)) := by rw [eK16]; exact kS_ne p15_o6 (by omega)
  have p16_o7 : K16 (o + 7) = some (.inr (0, 968)) := by rw [eK16]; exact kS_ne p15_o7 (by omega)
  have p16_o8 : K16 (o + 8) = some (.inr (0, 136)) := by rw [eK16]; exact kS_ne p15_o8 (by omega)
  have p16_o9 : K16 (o + 9) = some (.inr (0, 122)) := by rw [eK16]; exact kS_ne p15_o9 (by omega)
  have p16_o10 : K16 (o + 10) = some (.inr (0, 4)) := by rw [eK16]; exact kS_ne p15_o10 (by omega)
  have p16_o11 : K16 (o + 11) = some (.inr (0, 36)) := by rw [eK16]; exact kS_ne p15_o11 (by omega)
  have p16_o12 : K16 (o + 12) = some (.inr (3, 6)) := by rw [eK16]; exact kS_ne p15_o12 (by omega)
  have p16_o13 : K16 (o + 13) = some (.inr (0, 36)) := by rw [eK16]; exact kS_ne p15_o13 (by omega)
  have p16_o14 : K16 (o + 14) = some (.inr (0, 6)) := by rw [eK16]; exact kS_ne p15_o14 (by omega)
  have p16_o15 : K16 (o + 15) = some (.inr (0, 36)) := by rw [eK16]; exact kS_ne q15 (by omega)
  have q16 : K16 (o + 16) = some (.inr (0, 36)) := by rw [eK16]; exact kS_eq
  obtain ⟨h32, eh32⟩ : ∃ q, q = sR h31 o 32 (some (o + 16)) := ⟨_, rfl⟩
  refine i_putF (h' := h32) (ty := .array (.int)) (sz := o + 17) X O (by decide +kernel) fl11_57r.1 (fun C T N h => by cases h; exact ⟨rfl, by decide +kernel⟩) (fun C T N h => by cases h; rfl) rfl rfl p16_o (by rw [fl11_57r.2, eh32]; exact Wr.r (x := some (o + 16))) ?_
  refine g_aload_n (n := 0) (sz := o + 17) X (by decide +kernel) 0 rfl ?_
  refine g_bipush (n := 36) (x := (36 : Int32)) (sz := o + 17) X (by decide +kernel) (by decide) ?_
  refine i_newa (aty := .int) (t := 0) (n := 36) (sz := o + 17) X O (by decide +kernel) (by decide) rfl ac_0 rfl (by decide) (by decide) (by decide) (by decide) (by decide) ?_
  obtain ⟨K17, eK17⟩ : ∃ q, q = kS K16 (o + 17) (.inr (0, 36)) := ⟨_, rfl⟩
  rw [← eK17]
  obtain ⟨h33, eh33⟩ : ∃ q, q = zr h32 (o + 17) := ⟨_, rfl⟩
  rw [← eh33]
  have p17_o : K17 (o) = some (.inl 23) := by rw [eK17]; exact kS_ne p16_o (by omega)
  have p17_o1 : K17 (o + 1) = some (.inr (1, 2400)) := by rw [eK17]; exact kS_ne p16_o1 (by omega)
  have p17_o2 : K17 (o + 2) = some (.inr (0, 4)) := by rw [eK17]; exact kS_ne p16_o2 (by omega)
  have p17_o3 : K17 (o + 3) = some (.inr (0, 4)) := by rw [eK17]; exact kS_ne p16_o3 (by omega)
  have p17_o4 : K17 (o + 4) = some (.inr (0, 4)) := by rw [eK17]; exact kS_ne p16_o4 (by omega)
  have p17_o5 : K17 (o + 5) = some (.inr (0, 12)) := by rw [eK17]; exact kS_ne p16_o5 (by omega)
  have p17_o6 : K17 (o + 6) = some (.inr (0, 976)) := by rw [eK17]; exact kS_ne p16_o6 (by omega)
  have p17_o7 : K17 (o + 7) = some (.inr (0, 968)) := by rw [eK17]; exact kS_ne p16_o7 (by omega)
  have p17_o8 : K17 (o + 8) = some (.inr (0, 136)) := by rw [eK17]; exact kS_ne p16_o8 (by omega)
  have p17_o9 : K17 (o + 9) = some (.inr (0, 122)) := by rw [eK17]; exact kS_ne p16_o9 (by omega)
  have p17_o10 : K17 (o + 10) = some (.inr (0, 4)) := by rw [eK17]; exact kS_ne p16_o10 (by omega)
  have p17_o11 : K17 (o + 11) = some (.inr (0, 36)) := by rw [eK17]; exact kS_ne p16_o11 (by omega)
  have p17_o12 : K17 (o + 12) = some (.inr (3, 6)) := by rw [eK17]; exact kS_ne p16_o12 (by omega)
  have p17_o13 : K17 (o + 13) = some (.inr (0, 36)) := by rw [eK17]; exact kS_ne p16_o13 (by omega)
  have p17_o14 : K17 (o + 14) = some (.inr (0, 6)) := by rw [eK17]; exact kS_ne p16_o14 (by omega)
  have p17_o15 : K17 (o + 15) = some (.inr (0, 36)) := by rw [eK17]; exact kS_ne p16_o15 (by omega)
  have p17_o16 : K17 (o + 16) = some (.inr (0, 36)) := by rw [eK17]; exact kS_ne q16 (by omega)
  have q17 : K17 (o + 17) = some (.inr (0, 36)) := by rw [eK17]; exact kS_eq
  obtain ⟨h34, eh34⟩ : ∃ q, q = sR h33 o 33 (some (o + 17)) := ⟨_, rfl⟩
  refine i_putF (h' := h34) (ty := .array (.int)) (sz := o + 18) X O (by decide +kernel) fl11_60r.1 (fun C T N h => by cases h; exact ⟨rfl, by decide +kernel⟩) (fun C T N h => by cases h; rfl) rfl rfl p17_o (by rw [fl11_60r.2, eh34]; exact Wr.r (x := some (o + 17))) ?_
  refine g_aload_n (n := 0) (sz := o + 18) X (by decide +kernel) 0 rfl ?_
  refine g_bipush (n := 6) (x := (6 : Int32)) (sz := o + 18) X (by decide +kernel) (by decide) ?_
  refine i_newa (aty := .int) (t := 0) (n := 6) (sz := o + 18) X O (by decide +kernel) (by decide) rfl ac_0 rfl (by decide) (by decide) (by decide) (by decide) (by decide) ?_
  obtain ⟨K18, eK18⟩ : ∃ q, q = kS K17 (o + 18) (.inr (0, 6)) := ⟨_, rfl⟩
  rw [← eK18]
  obtain ⟨h35, eh35⟩ : ∃ q, q = zr h34 (o + 18) := ⟨_, rfl⟩
  rw [← eh35]
  have p18_o : K18 (o) = some (.inl 23) := by rw [eK18]; exact kS_ne p17_o (by omega)
  have p18_o1 : K18 (o + 1) = some (.inr (1, 2400)) := by rw [eK18]; exact kS_ne p17_o1 (by omega)
  have p18_o2 : K18 (o + 2) = some (.inr (0, 4)) := by rw [eK18]; exact kS_ne p17_o2 (by omega)
  have p18_o3 : K18 (o + 3) = some (.inr (0, 4)) := by rw [eK18]; exact kS_ne p17_o3 (by omega)
  have p18_o4 : K18 (o + 4) = some (.inr (0, 4)) := by rw [eK18]; exact kS_ne p17_o4 (by omega)
  have p18_o5 : K18 (o + 5) = some (.inr (0, 12)) := by rw [eK18]; exact kS_ne p17_o5 (by omega)
  have p18_o6 : K18 (o + 6) = some (.inr (0, 976)) := by rw [eK18]; exact kS_ne p17_o6 (by omega)
  have p18_o7 : K18 (o + 7) = some (.inr (0, 968)) := by rw [eK18]; exact kS_ne p17_o7 (by omega)
  have p18_o8 : K18 (o + 8) = some (.inr (0, 136)) := by rw [eK18]; exact kS_ne p17_o8 (by omega)
  have p18_o9 : K18 (o + 9) = some (.inr (0, 122)) := by rw [eK18]; exact kS_ne p17_o9 (by omega)
  have p18_o10 : K18 (o + 10) = some (.inr (0, 4)) := by rw [eK18]; exact kS_ne p17_o10 (by omega)
  have p18_o11 : K18 (o + 11) = some (.inr (0, 36)) := by rw [eK18]; exact kS_ne p17_o11 (by omega)
  have p18_o12 : K18 (o + 12) = some (.inr (3, 6)) := by rw [eK18]; exact kS_ne p17_o12 (by omega)
  have p18_o13 : K18 (o + 13) = some (.inr (0, 36)) := by rw [eK18]; exact kS_ne p17_o13 (by omega)
  have p18_o14 : K18 (o + 14) = some (.inr (0, 6)) := by rw [eK18]; exact kS_ne p17_o14 (by omega)
  have p18_o15 : K18 (o + 15) = some (.inr (0, 36)) := by rw [eK18]; exact kS_ne p17_o15 (by omega)
  have p18_o16 : K18 (o + 16) = some (.inr (0, 36)) := by rw [eK18]; exact kS_ne p17_o16 (by omega)
  have p18_o17 : K18 (o + 17) = some (.inr (0, 36)) := by rw [eK18]; exact kS_ne q17 (by omega)
  have q18 : K18 (o + 18) = some (.inr (0, 6)) := by rw [eK18]; exact kS_eq
  obtain ⟨h36, eh36⟩ : ∃ q, q = sR h35 o 34 (some (o + 18)) := ⟨_, rfl⟩
  refine i_putF (h' := h36) (ty := .array (.int)) (sz := o + 19) X O (by decide +kernel) fl11_63r.1 (fun C T N h => by cases h; exact ⟨rfl, by decide +kernel⟩) (fun C T N h => by cases h; rfl) rfl rfl p18_o (by rw [fl11_63r.2, eh36]; exact Wr.r (x := some (o + 18))) ?_
  refine g_aload_n (n := 0) (sz := o + 19) X (by decide +kernel) 0 rfl ?_
  refine g_sipush (n := 384) (x := (384 : Int32)) (sz := o + 19) X (by decide +kernel) (by decide) ?_
  refine i_newa (aty := .int) (t := 0) (n := 384) (sz := o + 19) X O (by decide +kernel) (by decide) rfl ac_0 rfl (by decide) (by decide) (by decide) (by decide) (by decide) ?_
  obtain ⟨K19, eK19⟩ : ∃ q, q = kS K18 (o + 19) (.inr (0, 384)) := ⟨_, rfl⟩
  rw [← eK19]
  obtain ⟨h37, eh37⟩ : ∃ q, q = zr h36 (o + 19) := ⟨_, rfl⟩
  rw [← eh37]
  have p19_o : K19 (o) = some (.inl 23) := by rw [eK19]; exact kS_ne p18_o (by omega)
  have p19_o1 : K19 (o + 1) = some (.inr (1, 2400)) := by rw [eK19]; exact kS_ne p18_o1 (by omega)
  have p19_o2 : K19 (o + 2) = some (.inr (0, 4)) := by rw [eK19]; exact kS_ne p18_o2 (by omega)
  have p19_o3 : K19 (o + 3) = some (.inr (0, 4)) := by rw [eK19]; exact kS_ne p18_o3 (by omega)
  have p19_o4 : K19 (o + 4) = some (.inr (0, 4)) := by rw [eK19]; exact kS_ne p18_o4 (by omega)
  have p19_o5 : K19 (o + 5) = some (.inr (0, 12)) := by rw [eK19]; exact kS_ne p18_o5 (by omega)
  have p19_o6 : K19 (o + 6) = some (.inr (0, 976)) := by rw [eK19]; exact kS_ne p18_o6 (by omega)
  have p19_o7 : K19 (o + 7) = some (.inr (0, 968)) := by rw [eK19]; exact kS_ne p18_o7 (by omega)
  have p19_o8 : K19 (o + 8) = some (.inr (0, 136)) := by rw [eK19]; exact kS_ne p18_o8 (by omega)
  have p19_o9 : K19 (o + 9) = some (.inr (0, 122)) := by rw [eK19]; exact kS_ne p18_o9 (by omega)
  have p19_o10 : K19 (o + 10) = some (.inr (0, 4)) := by rw [eK19]; exact kS_ne p18_o10 (by omega)
  have p19_o11 : K19 (o + 11) = some (.inr (0, 36)) := by rw [eK19]; exact kS_ne p18_o11 (by omega)
  have p19_o12 : K19 (o + 12) = some (.inr (3, 6)) := by rw [eK19]; exact kS_ne p18_o12 (by omega)
  have p19_o13 : K19 (o + 13) = some (.inr (0, 36)) := by rw [eK19]; exact kS_ne p18_o13 (by omega)
  have p19_o14 : K19 (o + 14) = some (.inr (0, 6)) := by rw [eK19]; exact kS_ne p18_o14 (by omega)
  have p19_o15 : K19 (o + 15) = some (.inr (0, 36)) := by rw [eK19]; exact kS_ne p18_o15 (by omega)
  have p19_o16 : K19 (o + 16) = some (.inr (0, 36)) := by rw [eK19]; exact kS_ne p18_o16 (by omega)
  have p19_o17 : K19 (o + 17) = some (.inr (0, 36)) := by rw [eK19]; exact kS_ne p18_o17 (by omega)
  have p19_o18 : K19 (o + 18) = some (.inr (0, 6)) := by rw [eK19]; exact kS_ne q18 (by omega)
  have q19 : K19 (o + 19) = some (.inr (0, 384)) := by rw [eK19]; exact kS_eq
  obtain ⟨h38, eh38⟩ : ∃ q, q = sR h37 o 35 (some (o + 19)) := ⟨_, rfl⟩
  refine i_putF (h' := h38) (ty := .array (.int)) (sz := o + 20) X O (by decide +kernel) fl11_66r.1 (fun C T N h => by cases h; exact ⟨rfl, by decide +kernel⟩) (fun C T N h => by cases h; rfl) rfl rfl p19_o (by rw [fl11_66r.2, eh38]; exact Wr.r (x := some (o + 19))) ?_
  refine g_aload_n (n := 0) (sz := o + 20) X (by decide +kernel) 0 rfl ?_
  refine g_sipush (n := 384) (x := (384 : Int32)) (sz := o + 20) X (by decide +kernel) (by decide) ?_
  refine i_newa (aty := .int) (t := 0) (n := 384) (sz := o + 20) X O (by decide +kernel) (by decide) rfl ac_0 rfl (by decide) (by decide) (by decide) (by decide) (by decide) ?_
  obtain ⟨K20, eK20⟩ : ∃ q, q = kS K19 (o + 20) (.inr (0, 384)) := ⟨_, rfl⟩
  rw [← eK20]
  obtain ⟨h39, eh39⟩ : ∃ q, q = zr h38 (o + 20) := ⟨_, rfl⟩
  rw [← eh39]
  have p20_o : K20 (o) = some (.inl 23) := by rw [eK20]; exact kS_ne p19_o (by omega)
  have p20_o1 : K20 (o + 1) = some (.inr (1, 2400)) := by rw [eK20]; exact kS_ne p19_o1 (by omega)
  have p20_o2 : K20 (o + 2) = some (.inr (0, 4)) := by rw [eK20]; exact kS_ne p19_o2 (by omega)
  have p20_o3 : K20 (o + 3) = some (.inr (0, 4)) := by rw [eK20]; exact kS_ne p19_o3 (by omega)
  have p20_o4 : K20 (o + 4) = some (.inr (0, 4)) := by rw [eK20]; exact kS_ne p19_o4 (by omega)
  have p20_o5 : K20 (o + 5) = some (.inr (0, 12)) := by rw [eK20]; exact kS_ne p19_o5 (by omega)
  have p20_o6 : K20 (o + 6) = some (.inr (0, 976)) := by rw [eK20]; exact kS_ne p19_o6 (by omega)
  have p20_o7 : K20 (o + 7) = some (.inr (0, 968)) := by rw [eK20]; exact kS_ne p19_o7 (by omega)
  have p20_o8 : K20 (o + 8) = some (.inr (0, 136)) := by rw [eK20]; exact kS_ne p19_o8 (by omega)
  have p20_o9 : K20 (o + 9) = some (.inr (0, 122)) := by rw [eK20]; exact kS_ne p19_o9 (by omega)
  have p20_o10 : K20 (o + 10) = some (.inr (0, 4)) := by rw [eK20]; exact kS_ne p19_o10 (by omega)
  have p20_o11 : K20 (o + 11) = some (.inr (0, 36)) := by rw [eK20]; exact kS_ne p19_o11 (by omega)
  have p20_o12 : K20 (o + 12) = some (.inr (3, 6)) := by rw [eK20]; exact kS_ne p19_o12 (by omega)
  have p20_o13 : K20 (o + 13) = some (.inr (0, 36)) := by rw [eK20]; exact kS_ne p19_o13 (by omega)
  have p20_o14 : K20 (o + 14) = some (.inr (0, 6)) := by rw [eK20]; exact kS_ne p19_o14 (by omega)
  have p20_o15 : K20 (o + 15) = some (.inr (0, 36)) := by rw [eK20]; exact kS_ne p19_o15 (by omega)
  have p20_o16 : K20 (o + 16) = some (.inr (0, 36)) := by rw [eK20]; exact kS_ne p19_o16 (by omega)
  have p20_o17 : K20 (o + 17) = some (.inr (0, 36)) := by rw [eK20]; exact kS_ne p19_o17 (by omega)
  have p20_o18 : K20 (o + 18) = some (.inr (0, 6)) := by rw [eK20]; exact kS_ne p19_o18 (by omega)
  have p20_o19 : K20 (o + 19) = some (.inr (0, 384)) := by rw [eK20]; exact kS_ne q19 (by omega)
  have q20 : K20 (o + 20) = some (.inr (0, 384)) := by rw [eK20]; exact kS_eq
  obtain ⟨h40, eh40⟩ : ∃ q, q = sR h39 o 36 (some (o + 20)) := ⟨_, rfl⟩
  refine i_putF (h' := h40) (ty := .array (.int)) (sz := o + 21) X O (by decide +kernel) fl11_69r.1 (fun C T N h => by cases h; exact ⟨rfl, by decide +kernel⟩) (fun C T N h => by cases h; rfl) rfl rfl p20_o (by rw [fl11_69r.2, eh40]; exact Wr.r (x := some (o + 20))) ?_
  refine g_aload_n (n := 0) (sz := o + 21) X (by decide +kernel) 0 rfl ?_
  refine g_sipush (n := 384) (x := (384 : Int32)) (sz := o + 21) X (by decide +kernel) (by decide) ?_
  refine i_newa (aty := .int) (t := 0) (n := 384) (sz := o + 21) X O (by decide +kernel) (by decide) rfl ac_0 rfl (by decide) (by decide) (by decide) (by decide) (by decide) ?_
  obtain ⟨K21, eK21⟩ : ∃ q, q = kS K20 (o + 21) (.inr (0, 384)) := ⟨_, rfl⟩
  rw [← eK21]
  obtain ⟨h41, eh41⟩ : ∃ q, q = zr h40 (o + 21) := ⟨_, rfl⟩
  rw [← eh41]
  have p21_o : K21 (o) = some (.inl 23) := by rw [eK21]; exact kS_ne p20_o (by omega)
  have p21_o1 : K21 (o + 1) = some (.inr (1, 2400)) := by rw [eK21]; exact kS_ne p20_o1 (by omega)
  have p21_o2 : K21 (o + 2) = some (.inr (0, 4)) := by rw [eK21]; exact kS_ne p20_o2 (by omega)
  have p21_o3 : K21 (o + 3) = some (.inr (0, 4)) := by rw [eK21]; exact kS_ne p20_o3 (by omega)
  have p21_o4 : K21 (o + 4) = some (.inr (0, 4)) := by rw [eK21]; exact kS_ne p20_o4 (by omega)
  have p21_o5 : K21 (o + 5) = some (.inr (0, 12)) := by rw [eK21]; exact kS_ne p20_o5 (by omega)
  have p21_o6 : K21 (o + 6) = some (.inr (0, 976)) := by rw [eK21]; exact kS_ne p20_o6 (by omega)
  have p21_o7 : K21 (o + 7) = some (.inr (0, 968)) := by rw [eK21]; exact kS_ne p20_o7 (by omega)
  have p21_o8 : K21 (o + 8) = some (.inr (0, 136)) := by rw [eK21]; exact kS_ne p20_o8 (by omega)
  have p21_o9 : K21 (o + 9) = some (.inr (0, 122)) := by rw [eK21]; exact kS_ne p20_o9 (by omega)
  have p21_o10 : K21 (o + 10) = some (.inr (0, 4)) := by rw [eK21]; exact kS_ne p20_o10 (by omega)
  have p21_o11 : K21 (o + 11) = some (.inr (0, 36)) := by rw [eK21]; exact kS_ne p20_o11 (by omega)
  have p21_o12 : K21 (o + 12) = some (.inr (3, 6)) := by rw [eK21]; exact kS_ne p20_o12 (by omega)
  have p21_o13 : K21 (o + 13) = some (.inr (0, 36)) := by rw [eK21]; exact kS_ne p20_o13 (by omega)
  have p21_o14 : K21 (o + 14) = some (.inr (0, 6)) := by rw [eK21]; exact kS_ne p20_o14 (by omega)
  have p21_o15 : K21 (o + 15) = some (.inr (0, 36)) := by rw [eK21]; exact kS_ne p20_o15 (by omega)
  have p21_o16 : K21 (o + 16) = some (.inr (0, 36)) := by rw [eK21]; exact kS_ne p20_o16 (by omega)
  have p21_o17 : K21 (o + 17) = some (.inr (0, 36)) := by rw [eK21]; exact kS_ne p20_o17 (by omega)
  have p21_o18 : K21 (o + 18) = some (.inr (0, 6)) := by rw [eK21]; exact kS_ne p20_o18 (by omega)
  have p21_o19 : K21 (o + 19) = some (.inr (0, 384)) := by rw [eK21]; exact kS_ne p20_o19 (by omega)
  have p21_o20 : K21 (o + 20) = some (.inr (0, 384)) := by rw [eK21]; exact kS_ne q20 (by omega)
  have q21 : K21 (o + 21) = some (.inr (0, 384)) := by rw [eK21]; exact kS_eq
  obtain ⟨h42, eh42⟩ : ∃ q, q = sR h41 o 37 (some (o + 21)) := ⟨_, rfl⟩
  refine i_putF (h' := h42) (ty := .array (.int)) (sz := o + 22) X O (by decide +kernel) fl11_72r.1 (fun C T N h => by cases h; exact ⟨rfl, by decide +kernel⟩) (fun C T N h => by cases h; rfl) rfl rfl p21_o (by rw [fl11_72r.2, eh42]; exact Wr.r (x := some (o + 21))) ?_
  refine g_aload_n (n := 0) (sz := o + 22) X (by decide +kernel) 0 rfl ?_
  refine g_sipush (n := 384) (x := (384 : Int32)) (sz := o + 22) X (by decide +kernel) (by decide) ?_
  refine i_newa (aty := .long) (t := 3) (n := 384) (sz := o + 22) X O (by decide +kernel) (by decide) rfl ac_3 rfl (by decide) (by decide) (by decide) (by decide) (by decide) ?_
  obtain ⟨K22, eK22⟩ : ∃ q, q = kS K21 (o + 22) (.inr (3, 384)) := ⟨_, rfl⟩
  rw [← eK22]
  obtain ⟨h43, eh43⟩ : ∃ q, q = zr h42 (o + 22) := ⟨_, rfl⟩
  rw [← eh43]
  have p22_o : K22 (o) = some (.inl 23) := by rw [eK22]; exact kS_ne p21_o (by omega)
  have p22_o1 : K22 (o + 1) = some (.inr (1, 2400)) := by rw [eK22]; exact kS_ne p21_o1 (by omega)
  have p22_o2 : K22 (o + 2) = some (.inr (0, 4)) := by rw [eK22]; exact kS_ne p21_o2 (by omega)
  have p22_o3 : K22 (o + 3) = some (.inr (0, 4)) := by rw [eK22]; exact kS_ne p21_o3 (by omega)
  have p22_o4 : K22 (o + 4) = some (.inr (0, 4)) := by rw [eK22]; exact kS_ne p21_o4 (by omega)
  have p22_o5 : K22 (o + 5) = some (.inr (0, 12)) := by rw [eK22]; exact kS_ne p21_o5 (by omega)
  have p22_o6 : K22 (o + 6) = some (.inr (0, 976)) := by rw [eK22]; exact kS_ne p21_o6 (by omega)
  have p22_o7 : K22 (o + 7) = some (.inr (0, 968)) := by rw [eK22]; exact kS_ne p21_o7 (by omega)
  have p22_o8 : K22 (o + 8) = some (.inr (0, 136)) := by rw [eK22]; exact kS_ne p21_o8 (by omega)
  have p22_o9 : K22 (o + 9) = some (.inr (0, 122)) := by rw [eK22]; exact kS_ne p21_o9 (by omega)
  have p22_o10 : K22 (o + 10) = some (.inr (0, 4)) := by rw [eK22]; exact kS_ne p21_o10 (by omega)
  have p22_o11 : K22 (o + 11) = some (.inr (0, 36)) := by rw [eK22]; exact kS_ne p21_o11 (by omega)
  have p22_o12 : K22 (o + 12) = some (.inr (3, 6)) := by rw [eK22]; exact kS_ne p21_o12 (by omega)
  have p22_o13 : K22 (o + 13) = some (.inr (0, 36)) := by rw [eK22]; exact kS_ne p21_o13 (by omega)
  have p22_o14 : K22 (o + 14) = some (.inr (0, 6)) := by rw [eK22]; exact kS_ne p21_o14 (by omega)
  have p22_o15 : K22 (o + 15) = some (.inr (0, 36)) := by rw [eK22]; exact kS_ne p21_o15 (by omega)
  have p22_o16 : K22 (o + 16) = some (.inr (0, 36)) := by rw [eK22]; exact kS_ne p21_o16 (by omega)
  have p22_o17 : K22 (o + 17) = some (.inr (0, 36)) := by rw [eK22]; exact kS_ne p21_o17 (by omega)
  have p22_o18 : K22 (o + 18) = some (.inr (0, 6)) := by rw [eK22]; exact kS_ne p21_o18 (by omega)
  have p22_o19 : K22 (o + 19) = some (.inr (0, 384)) := by rw [eK22]; exact kS_ne p21_o19 (by omega)
  have p22_o20 : K22 (o + 20) = some (.inr (0, 384)) := by rw [eK22]; exact kS_ne p21_o20 (by omega)
  have p22_o21 : K22 (o + 21) = some (.inr (0, 384)) := by rw [eK22]; exact kS_ne q21 (by omega)
  have q22 : K22 (o + 22) = some (.inr (3, 384)) := by rw [eK22]; exact kS_eq
  obtain ⟨h44, eh44⟩ : ∃ q, q = sR h43 o 38 (some (o + 22)) := ⟨_, rfl⟩
  refine i_putF (h' := h44) (ty := .array (.long)) (sz := o + 23) X O (by decide +kernel) fl11_75r.1 (fun C T N h => by cases h; exact ⟨rfl, by decide +kernel⟩) (fun C T N h => by cases h; rfl) rfl rfl p22_o (by rw [fl11_75r.2, eh44]; exact Wr.r (x := some (o + 22))) ?_
  refine g_aload_n (n := 0) (sz := o + 23) X (by decide +kernel) 0 rfl ?_
  refine g_sipush (n := 384) (x := (384 : Int32)) (sz := o + 23) X (by decide +kernel) (by decide) ?_
  refine i_newa (aty := .long) (t := 3) (n := 384) (sz := o + 23) X O (by decide +kernel) (by decide) rfl ac_3 rfl (by decide) (by decide) (by decide) (by decide) (by decide) ?_
  obtain ⟨K23, eK23⟩ : ∃ q, q = kS K22 (o + 23) (.inr (3, 384)) := ⟨_, rfl⟩
  rw [← eK23]
  obtain ⟨h45, eh45⟩ : ∃ q, q = zr h44 (o + 23) := ⟨_, rfl⟩
  rw [← eh45]
  have p23_o : K23 (o) = some (.inl 23) := by rw [eK23]; exact kS_ne p22_o (by omega)
  have p23_o1 : K23 (o + 1) = some (.inr (1, 2400)) := by rw [eK23]; exact kS_ne p22_o1 (by omega)
  have p23_o2 : K23 (o + 2) = some (.inr (0, 4)) := by rw [eK23]; exact kS_ne p22_o2 (by omega)
  have p23_o3 : K23 (o + 3) = some (.inr (0, 4)) := by rw [eK23]; exact kS_ne p22_o3 (by omega)
  have p23_o4 : K23 (o + 4) = some (.inr (0, 4)) := by rw [eK23]; exact kS_ne p22_o4 (by omega)
  have p23_o5 : K23 (o + 5) = some (.inr (0, 12)) := by rw [eK23]; exact kS_ne p22_o5 (by omega)
  have p23_o6 : K23 (o + 6) = some (.inr (0, 976)) := by rw [eK23]; exact kS_ne p22_o6 (by omega)
  have p23_o7 : K23 (o + 7) = some (.inr (0, 968)) := by rw [eK23]; exact kS_ne p22_o7 (by omega)
  have p23_o8 : K23 (o + 8) = some (.inr (0, 136)) := by rw [eK23]; exact kS_ne p22_o8 (by omega)
  have p23_o9 : K23 (o + 9) = some (.inr (0, 122)) := by rw [eK23]; exact kS_ne p22_o9 (by omega)
  have p23_o10 : K23 (o + 10) = some (.inr (0, 4)) := by rw [eK23]; exact kS_ne p22_o10 (by omega)
  have p23_o11 : K23 (o + 11) = some (.inr (0, 36)) := by rw [eK23]; exact kS_ne p22_o11 (by omega)
  have p23_o12 : K23 (o + 12) = some (.inr (3, 6)) := by rw [eK23]; exact kS_ne p22_o12 (by omega)
  have p23_o13 : K23 (o + 13) = some (.inr (0, 36)) := by rw [eK23]; exact kS_ne p22_o13 (by omega)
  have p23_o14 : K23 (o + 14) = some (.inr (0, 6)) := by rw [eK23]; exact kS_ne p22_o14 (by omega)
  have p23_o15 : K23 (o + 15) = some (.inr (0, 36)) := by rw [eK23]; exact kS_ne p22_o15 (by omega)
  have p23_o16 : K23 (o + 16) = some (.inr (0, 36)) := by rw [eK23]; exact kS_ne p22_o16 (by omega)
  have p23_o17 : K23 (o + 17) = some (.inr (0, 36)) := by rw [eK23]; exact kS_ne p22_o17 (by omega)
  have p23_o18 : K23 (o + 18) = some (.inr (0, 6)) := by rw [eK23]; exact kS_ne p22_o18 (by omega)
  have p23_o19 : K23 (o + 19) = some (.inr (0, 384)) := by rw [eK23]; exact kS_ne p22_o19 (by omega)
  have p23_o20 : K23 (o + 20) = some (.inr (0, 384)) := by rw [eK23]; exact kS_ne p22_o20 (by omega)
  have p23_o21 : K23 (o + 21) = some (.inr (0, 384)) := by rw [eK23]; exact kS_ne p22_o21 (by omega)
  have p23_o22 : K23 (o + 22) = some (.inr (3, 384)) := by rw [eK23]; exact kS_ne q22 (by omega)
  have q23 : K23 (o + 23) = some (.inr (3, 384)) := by rw [eK23]; exact kS_eq
  obtain ⟨h46, eh46⟩ : ∃ q, q = sR h45 o 39 (some (o + 23)) := ⟨_, rfl⟩
  refine i_putF (h' := h46) (ty := .array (.long)) (sz := o + 24) X O (by decide +kernel) fl11_78r.1 (fun C T N h => by cases h; exact ⟨rfl, by decide +kernel⟩) (fun C T N h => by cases h; rfl) rfl rfl p23_o (by rw [fl11_78r.2, eh46]; exact Wr.r (x := some (o + 23))) ?_
  refine g_aload_n (n := 0) (sz := o + 24) X (by decide +kernel) 0 rfl ?_
  refine g_sipush (n := 384) (x := (384 : Int32)) (sz := o + 24) X (by decide +kernel) (by decide) ?_
  refine i_newa (aty := .int) (t := 0) (n := 384) (sz := o + 24) X O (by decide +kernel) (by decide) rfl ac_0 rfl (by decide) (by decide) (by decide) (by decide) (by decide) ?_
  obtain ⟨K24, eK24⟩ : ∃ q, q = kS K23 (o + 24) (.inr (0, 384)) := ⟨_, rfl⟩
  rw [← eK24]
  obtain ⟨h47, eh47⟩ : ∃ q, q = zr h46 (o + 24) := ⟨_, rfl⟩
  rw [← eh47]
  have p24_o : K24 (o) = some (.inl 23) := by rw [eK24]; exact kS_ne p23_o (by omega)
  have p24_o1 : K24 (o + 1) = some (.inr (1, 2400)) := by rw [eK24]; exact kS_ne p23_o1 (by omega)
  have p24_o2 : K24 (o + 2) = some (.inr (0, 4)) := by rw [eK24]; exact kS_ne p23_o2 (by omega)
  have p24_o3 : K24 (o + 3) = some (.inr (0, 4)) := by rw [eK24]; exact kS_ne p23_o3 (by omega)
  have p24_o4 : K24 (o + 4) = some (.inr (0, 4)) := by rw [eK24]; exact kS_ne p23_o4 (by omega)
  have p24_o5 : K24 (o + 5) = some (.inr (0, 12)) := by rw [eK24]; exact kS_ne p23_o5 (by omega)
  have p24_o6 : K24 (o + 6) = some (.inr (0, 976)) := by rw [eK24]; exact kS_ne p23_o6 (by omega)
  have p24_o7 : K24 (o + 7) = some (.inr (0, 968)) := by rw [eK24]; exact kS_ne p23_o7 (by omega)
  have p24_o8 : K24 (o + 8) = some (.inr (0, 136)) := by rw [eK24]; exact kS_ne p23_o8 (by omega)
  have p24_o9 : K24 (o + 9) = some (.inr (0, 122)) := by rw [eK24]; exact kS_ne p23_o9 (by omega)
  have p24_o10 : K24 (o + 10) = some (.inr (0, 4)) := by rw [eK24]; exact kS_ne p23_o10 (by omega)
  have p24_o11 : K24 (o + 11) = some (.inr (0, 36)) := by rw [eK24]; exact kS_ne p23_o11 (by omega)
  have p24_o12 : K24 (o + 12) = some (.inr (3, 6)) := by rw [eK24]; exact kS_ne p23_o12 (by omega)
  have p24_o13 : K24 (o + 13) = some (.inr (0, 36)) := by rw [eK24]; exact kS_ne p23_o13 (by omega)
  have p24_o14 : K24 (o + 14) = some (.inr (0, 6)) := by rw [eK24]; exact kS_ne p23_o14 (by omega)
  have p24_o15 : K24 (o + 15) = some (.inr (0, 36)) := by rw [eK24]; exact kS_ne p23_o15 (by omega)
  have p24_o16 : K24 (o + 16) = some (.inr (0, 36)) := by rw [eK24]; exact kS_ne p23_o16 (by omega)
  have p24_o17 : K24 (o + 17) = some (.inr (0, 36)) := by rw [eK24]; exact kS_ne p23_o17 (by omega)
  have p24_o18 : K24 (o + 18) = some (.inr (0, 6)) := by rw [eK24]; exact kS_ne p23_o18 (by omega)
  have p24_o19 : K24 (o + 19) = some (.inr (0, 384)) := by rw [eK24]; exact kS_ne p23_o19 (by omega)
  have p24_o20 : K24 (o + 20) = some (.inr (0, 384)) := by rw [eK24]; exact kS_ne p23_o20 (by omega)
  have p24_o21 : K24 (o + 21) = some (.inr (0, 384)) := by rw [eK24]; exact kS_ne p23_o21 (by omega)
  have p24_o22 : K24 (o + 22) = some (.inr (3, 384)) := by rw [eK24]; exact kS_ne p23_o22 (by omega)
  have p24_o23 : K24 (o + 23) = some (.inr (3, 384)) := by rw [eK24]; exact kS_ne q23 (by omega)
  have q24 : K24 (o + 24) = some (.inr (0, 384)) := by rw [eK24]; exact kS_eq
  obtain ⟨h48, eh48⟩ : ∃ q, q = sR h47 o 40 (some (o + 24)) := ⟨_, rfl⟩
  refine i_putF (h' := h48) (ty := .array (.int)) (sz := o + 25) X O (by decide +kernel) fl11_81r.1 (fun C T N h => by cases h; exact ⟨rfl, by decide +kernel⟩) (fun C T N h => by cases h; rfl) rfl rfl p24_o (by rw [fl11_81r.2, eh48]; exact Wr.r (x := some (o + 24))) ?_
  refine g_aload_n (n := 0) (sz := o + 25) X (by decide +kernel) 0 rfl ?_
  refine g_sipush (n := 384) (x := (384 : Int32)) (sz := o + 25) X (by decide +kernel) (by decide) ?_
  refine i_newa (aty := .int) (t := 0) (n := 384) (sz := o + 25) X O (by decide +kernel) (by decide) rfl ac_0 rfl (by decide) (by decide) (by decide) (by decide) (by decide) ?_
  obtain ⟨K25, eK25⟩ : ∃ q, q = kS K24 (o + 25) (.inr (0, 384)) := ⟨_, rfl⟩
  rw [← eK25]
  obtain ⟨h49, eh49⟩ : ∃ q, q = zr h48 (o + 25) := ⟨_, rfl⟩
  rw [← eh49]
  have p25_o : K25 (o) = some (.inl 23) := by rw [eK25]; exact kS_ne p24_o (by omega)
  have p25_o1 : K25 (o + 1) = some (.inr (1, 2400)) := by rw [eK25]; exact kS_ne p24_o1 (by omega)
  have p25_o2 : K25 (o + 2) = some (.inr (0, 4)) := by rw [eK25]; exact kS_ne p24_o2 (by omega)
  have p25_o3 : K25 (o + 3) = some (.inr (0, 4)) := by rw [eK25]; exact kS_ne p24_o3 (by omega)
  have p25_o4 : K25 (o + 4) = some (.inr (0, 4)) := by rw [eK25]; exact kS_ne p24_o4 (by omega)
  have p25_o5 : K25 (o + 5) = some (.inr (0, 12)) := by rw [eK25]; exact kS_ne p24_o5 (by omega)
  have p25_o6 : K25 (o + 6) = some (.inr (0, 976)) := by rw [eK25]; exact kS_ne p24_o6 (by omega)
  have p25_o7 : K25 (o + 7) = some (.inr (0, 968)) := by rw [eK25]; exact kS_ne p24_o7 (by omega)
  have p25_o8 : K25 (o + 8) = some (.inr (0, 136)) := by rw [eK25]; exact kS_ne p24_o8 (by omega)
  have p25_o9 : K25 (o + 9) = some (.inr (0, 122)) := by rw [eK25]; exact kS_ne p24_o9 (by omega)
  have p25_o10 : K25 (o + 10) = some (.inr (0, 4)) := by rw [eK25]; exact kS_ne p24_o10 (by omega)
  have p25_o11 : K25 (o + 11) = some (.inr (0, 36)) := by rw [eK25]; exact kS_ne p24_o11 (by omega)
  have p25_o12 : K25 (o + 12) = some (.inr (3, 6)) := by rw [eK25]; exact kS_ne p24_o12 (by omega)
  have p25_o13 : K25 (o + 13) = some (.inr (0, 36)) := by rw [eK25]; exact kS_ne p24_o13 (by omega)
  have p25_o14 : K25 (o + 14) = some (.inr (0, 6)) := by rw [eK25]; exact kS_ne p24_o14 (by omega)
  have p25_o15 : K25 (o + 15) = some (.inr (0, 36)) := by rw [eK25]; exact kS_ne p24_o15 (by omega)
  have p25_o16 : K25 (o + 16) = some (.inr (0, 36)) := by rw [eK25]; exact kS_ne p24_o16 (by omega)
  have p25_o17 : K25 (o + 17) = some (.inr (0, 36)) := by rw [eK25]; exact kS_ne p24_o17 (by omega)
  have p25_o18 : K25 (o + 18) = some (.inr (0, 6)) := by rw [eK25]; exact kS_ne p24_o18 (by omega)
  have p25_o19 : K25 (o + 19) = some (.inr (0, 384)) := by rw [eK25]; exact kS_ne p24_o19 (by omega)
  have p25_o20 : K25 (o + 20) = some (.inr (0, 384)) := by rw [eK25]; exact kS_ne p24_o20 (by omega)
  have p25_o21 : K25 (o + 21) = some (.inr (0, 384)) := by rw [eK25]; exact kS_ne p24_o21 (by omega)
  have p25_o22 : K25 (o + 22) = some (.inr (3, 384)) := by rw [eK25]; exact kS_ne p24_o22 (by omega)
  have p25_o23 : K25 (o + 23) = some (.inr (3, 384)) := by rw [eK25]; exact kS_ne p24_o23 (by omega)
  have p25_o24 : K25 (o + 24) = some (.inr (0, 384)) := by rw [eK25]; exact kS_ne q24 (by omega)
  have q25 : K25 (o + 25) = some (.inr (0, 384)) := by rw [eK25]; exact kS_eq
  obtain ⟨h50, eh50⟩ : ∃ q, q = sR h49 o 41 (some (o + 25)) := ⟨_, rfl⟩
  refine i_putF (h' := h50) (ty := .array (.int)) (sz := o + 26) X O (by decide +kernel) fl11_84r.1 (fun C T N h => by cases h; exact ⟨rfl, by decide +kernel⟩) (fun C T N h => by cases h; rfl) rfl rfl p25_o (by rw [fl11_84r.2, eh50]; exact Wr.r (x := some (o + 25))) ?_
  refine g_aload_n (n := 0) (sz := o + 26) X (by decide +kernel) 0 rfl ?_
  refine g_sipush (n := 384) (x := (384 : Int32)) (sz := o + 26) X (by decide +kernel) (by decide) ?_
  refine i_newa (aty := .int) (t := 0) (n := 384) (sz := o + 26) X O (by decide +kernel) (by decide) rfl ac_0 rfl (by decide) (by decide) (by decide) (by decide) (by decide) ?_
  obtain ⟨K26, eK26⟩ : ∃ q, q = kS K25 (o + 26) (.inr (0, 384)) := ⟨_, rfl⟩
  rw [← eK26]
  obtain ⟨h51, eh51⟩ : ∃ q, q = zr h50 (o + 26) := ⟨_, rfl⟩
  rw [← eh51]
  have p26_o : K26 (o) = some (.inl 23) := by rw [eK26]; exact kS_ne p25_o (by omega)
  have p26_o1 : K26 (o + 1) = some (.inr (1, 2400)) := by rw [eK26]; exact kS_ne p25_o1 (by omega)
  have p26_o2 : K26 (o + 2) = some (.inr (0, 4)) := by rw [eK26]; exact kS_ne p25_o2 (by omega)
  have p26_o3 : K26 (o + 3) = some (.inr (0, 4)) := by rw [eK26]; exact kS_ne p25_o3 (by omega)
  have p26_o4 : K26 (o + 4) = some (.inr (0, 4)) := by rw [eK26]; exact kS_ne p25_o4 (by omega)
  have p26_o5 : K26 (o + 5) = some (.inr (0, 12)) := by rw [eK26]; exact kS_ne p25_o5 (by omega)
  have p26_o6 : K26 (o + 6) = some (.inr (0, 976)) := by rw [eK26]; exact kS_ne p25_o6 (by omega)
  have p26_o7 : K26 (o + 7) = some (.inr (0, 968)) := by rw [eK26]; exact kS_ne p25_o7 (by omega)
  have p26_o8 : K26 (o + 8) = some (.inr (0, 136)) := by rw [eK26]; exact kS_ne p25_o8 (by omega)
  have p26_o9 : K26 (o + 9) = some (.inr (0, 122)) := by rw [eK26]; exact kS_ne p25_o9 (by omega)
  have p26_o10 : K26 (o + 10) = some (.inr (0, 4)) := by rw [eK26]; exact kS_ne p25_o10 (by omega)
  have p26_o11 : K26 (o + 11) = some (.inr (0, 36)) := by rw [eK26]; exact kS_ne p25_o11 (by omega)
  have p26_o12 : K26 (o + 12) = some (.inr (3, 6)) := by rw [eK26]; exact kS_ne p25_o12 (by omega)
  have p26_o13 : K26 (o + 13) = some (.inr (0, 36)) := by rw [eK26]; exact kS_ne p25_o13 (by omega)
  have p26_o14 : K26 (o + 14) = some (.inr (0, 6)) := by rw [eK26]; exact kS_ne p25_o14 (by omega)
  have p26_o15 : K26 (o + 15) = some (.inr (0, 36)) := by rw [eK26]; exact kS_ne p25_o15 (by omega)
  have p26_o16 : K26 (o + 16) = some (.inr (0, 36)) := by rw [eK26]; exact kS_ne p25_o16 (by omega)
  have p26_o17 : K26 (o + 17) = some (.inr (0, 36)) := by rw [eK26]; exact kS_ne p25_o17 (by omega)
  have p26_o18 : K26 (o + 18) = some (.inr (0, 6)) := by rw [eK26]; exact kS_ne p25_o18 (by omega)
  have p26_o19 : K26 (o + 19) = some (.inr (0, 384)) := by rw [eK26]; exact kS_ne p25_o19 (by omega)
  have p26_o20 : K26 (o + 20) = some (.inr (0, 384)) := by rw [eK26]; exact kS_ne p25_o20 (by omega)
  have p26_o21 : K26 (o + 21) = some (.inr (0, 384)) := by rw [eK26]; exact kS_ne p25_o21 (by omega)
  have p26_o22 : K26 (o + 22) = some (.inr (3, 384)) := by rw [eK26]; exact kS_ne p25_o22 (by omega)
  have p26_o23 : K26 (o + 23) = some (.inr (3, 384)) := by rw [eK26]; exact kS_ne p25_o23 (by omega)
  have p26_o24 : K26 (o + 24) = some (.inr (0, 384)) := by rw [eK26]; exact kS_ne p25_o24 (by omega)
  have p26_o25 : K26 (o + 25) = some (.inr (0, 384)) := by rw [eK26]; exact kS_ne q25 (by omega)
  have q26 : K26 (o + 26) = some (.inr (0, 384)) := by rw [eK26]; exact kS_eq
  obtain ⟨h52, eh52⟩ : ∃ q, q = sR h51 o 42 (some (o + 26)) := ⟨_, rfl⟩
  refine i_putF (h' := h52) (ty := .array (.int)) (sz := o + 27) X O (by decide +kernel) fl11_87r.1 (fun C T N h => by cases h; exact ⟨rfl, by decide +kernel⟩) (fun C T N h => by cases h; rfl) rfl rfl p26_o (by rw [fl11_87r.2, eh52]; exact Wr.r (x := some (o + 26))) ?_
  refine g_aload_n (n := 0) (sz := o + 27) X (by decide +kernel) 0 rfl ?_
  refine g_sipush (n := 384) (x := (384 : Int32)) (sz := o + 27) X (by decide +kernel) (by decide) ?_
  refine i_newa (aty := .int) (t := 0) (n := 384) (sz := o + 27) X O (by decide +kernel) (by decide) rfl ac_0 rfl (by decide) (by decide) (by decide) (by decide) (by decide) ?_
  obtain ⟨K27, eK27⟩ : ∃ q, q = kS K26 (o + 27) (.inr (0, 384)) := ⟨_, rfl⟩
  rw [← eK27]
  obtain ⟨h53, eh53⟩ : ∃ q, q = zr h52 (o + 27) := ⟨_, rfl⟩
  rw [← eh53]
  have p27_o : K27 (o) = some (.inl 23) := by rw [eK27]; exact kS_ne p26_o (by omega)
  have p27_o1 : K27 (o + 1) = some (.inr (1, 2400)) := by rw [eK27]; exact kS_ne p26_o1 (by omega)
  have p27_o2 : K27 (o + 2) = some (.inr (0, 4)) := by rw [eK27]; exact kS_ne p26_o2 (by omega)
  have p27_o3 : K27 (o + 3) = some (.inr (0, 4)) := by rw [eK27]; exact kS_ne p26_o3 (by omega)
  have p27_o4 : K27 (o + 4) = some (.inr (0, 4)) := by rw [eK27]; exact kS_ne p26_o4 (by omega)
  have p27_o5 : K27 (o + 5) = some (.inr (0, 12)) := by rw [eK27]; exact kS_ne p26_o5 (by omega)
  have p27_o6 : K27 (o + 6) = some (.inr (0, 976)) := by rw [eK27]; exact kS_ne p26_o6 (by omega)
  have p27_o7 : K27 (o + 7) = some (.inr (0, 968)) := by rw [eK27]; exact kS_ne p26_o7 (by omega)
  have p27_o8 : K27 (o + 8) = some (.inr (0, 136)) := by rw [eK27]; exact kS_ne p26_o8 (by omega)
  have p27_o9 : K27 (o + 9) = some (.inr (0, 122)) := by rw [eK27]; exact kS_ne p26_o9 (by omega)
  have p27_o10 : K27 (o + 10) = some (.inr (0, 4)) := by rw [eK27]; exact kS_ne p26_o10 (by omega)
  have p27_o11 : K27 (o + 11) = some (.inr (0, 36)) := by rw [eK27]; exact kS_ne p26_o11 (by omega)
  have p27_o12 : K27 (o + 12) = some (.inr (3, 6)) := by rw [eK27]; exact kS_ne p26_o12 (by omega)
  have p27_o13 : K27 (o + 13) = some (.inr (0, 36)) := by rw [eK27]; exact kS_ne p26_o13 (by omega)
  have p27_o14 : K27 (o + 14) = some (.inr (0, 6)) := by rw [eK27]; exact kS_ne p26_o14 (by omega)
  have p27_o15 : K27 (o + 15) = some (.inr (0, 36)) := by rw [eK27]; exact kS_ne p26_o15 (by omega)
  have p27_o16 : K27 (o + 16) = some (.inr (0, 36)) := by rw [eK27]; exact kS_ne p26_o16 (by omega)
  have p27_o17 : K27 (o + 17) = some (.inr (0, 36)) := by rw [eK27]; exact kS_ne p26_o17 (by omega)
  have p27_o18 : K27 (o + 18) = some (.inr (0, 6)) := by rw [eK27]; exact kS_ne p26_o18 (by omega)
  have p27_o19 : K27 (o + 19) = some (.inr (0, 384)) := by rw [eK27]; exact kS_ne p26_o19 (by omega)
  have p27_o20 : K27 (o + 20) = some (.inr (0, 384)) := by rw [eK27]; exact kS_ne p26_o20 (by omega)
  have p27_o21 : K27 (o + 21) = some (.inr (0, 384)) := by rw [eK27]; exact kS_ne p26_o21 (by omega)
  have p27_o22 : K27 (o + 22) = some (.inr (3, 384)) := by rw [eK27]; exact kS_ne p26_o22 (by omega)
  have p27_o23 : K27 (o + 23) = some (.inr (3, 384)) := by rw [eK27]; exact kS_ne p26_o23 (by omega)
  have p27_o24 : K27 (o + 24) = some (.inr (0, 384)) := by rw [eK27]; exact kS_ne p26_o24 (by omega)
  have p27_o25 : K27 (o + 25) = some (.inr (0, 384)) := by rw [eK27]; exact kS_ne p26_o25 (by omega)
  have p27_o26 : K27 (o + 26) = some (.inr (0, 384)) := by rw [eK27]; exact kS_ne q26 (by omega)
  have q27 : K27 (o + 27) = some (.inr (0, 384)) := by rw [eK27]; exact kS_eq
  obtain ⟨h54, eh54⟩ : ∃ q, q = sR h53 o 43 (some (o + 27)) := ⟨_, rfl⟩
  refine i_putF (h' := h54) (ty := .array (.int)) (sz := o + 28) X O (by decide +kernel) fl11_90r.1 (fun C T N h => by cases h; exact ⟨rfl, by decide +kernel⟩) (fun C T N h => by cases h; rfl) rfl rfl p27_o (by rw [fl11_90r.2, eh54]; exact Wr.r (x := some (o + 27))) ?_
  refine g_aload_n (n := 0) (sz := o + 28) X (by decide +kernel) 0 rfl ?_
  refine g_sipush (n := 384) (x := (384 : Int32)) (sz := o + 28) X (by decide +kernel) (by decide) ?_
  refine i_newa (aty := .int) (t := 0) (n := 384) (sz := o + 28) X O (by decide +kernel) (by decide) rfl ac_0 rfl (by decide) (by decide) (by decide) (by decide) (by decide) ?_
  obtain ⟨K28, eK28⟩ : ∃ q, q = kS K27 (o + 28) (.inr (0, 384)) := ⟨_, rfl⟩
  rw [← eK28]
  obtain ⟨h55, eh55⟩ : ∃ q, q = zr h54 (o + 28) := ⟨_, rfl⟩
  rw [← eh55]
  have p28_o : K28 (o) = some (.inl 23) := by rw [eK28]; exact kS_ne p27_o (by omega)
  have p28_o1 : K28 (o + 1) = some (.inr (1, 2400)) := by rw [eK28]; exact kS_ne p27_o1 (by omega)
  have p28_o2 : K28 (o + 2) = some (.inr (0, 4)) := by rw [eK28]; exact kS_ne p27_o2 (by omega)
  have p28_o3 : K28 (o + 3) = some (.inr (0, 4)) := by rw [eK28]; exact kS_ne p27_o3 (by omega)
  have p28_o4 : K28 (o + 4) = some (.inr (0, 4)) := by rw [eK28]; exact kS_ne p27_o4 (by omega)
  have p28_o5 : K28 (o + 5) = some (.inr (0, 12)) := by rw [eK28]; exact kS_ne p27_o5 (by omega)
  have p28_o6 : K28 (o + 6) = some (.inr (0, 976)) := by rw [eK28]; exact kS_ne p27_o6 (by omega)
  have p28_o7 : K28 (o + 7) = some (.inr (0, 968)) := by rw [eK28]; exact kS_ne p27_o7 (by omega)
  have p28_o8 : K28 (o + 8) = some (.inr (0, 136)) := by rw [eK28]; exact kS_ne p27_o8 (by omega)
  have p28_o9 : K28 (o + 9) = some (.inr (0, 122)) := by rw [eK28]; exact kS_ne p27_o9 (by omega)
  have p28_o10 : K28 (o + 10) = some (.inr (0, 4)) := by rw [eK28]; exact kS_ne p27_o10 (by omega)
  have p28_o11 : K28 (o + 11) = some (.inr (0, 36)) := by rw [eK28]; exact kS_ne p27_o11 (by omega)
  have p28_o12 : K28 (o + 12) = some (.inr (3, 6)) := by rw [eK28]; exact kS_ne p27_o12 (by omega)
  have p28_o13 : K28 (o + 13) = some (.inr (0, 36)) := by rw [eK28]; exact kS_ne p27_o13 (by omega)
  have p28_o14 : K28 (o + 14) = some (.inr (0, 6)) := by rw [eK28]; exact kS_ne p27_o14 (by omega)
  have p28_o15 : K28 (o + 15) = some (.inr (0, 36)) := by rw [eK28]; exact kS_ne p27_o15 (by omega)
  have p28_o16 : K28 (o + 16) = some (.inr (0, 36)) := by rw [eK28]; exact kS_ne p27_o16 (by omega)
  have p28_o17 : K28 (o + 17) = some (.inr (0, 36)) := by rw [eK28]; exact kS_ne p27_o17 (by omega)
  have p28_o18 : K28 (o + 18) = some (.inr (0, 6)) := by rw [eK28]; exact kS_ne p27_o18 (by omega)
  have p28_o19 : K28 (o + 19) = some (.inr (0, 384)) := by rw [eK28]; exact kS_ne p27_o19 (by omega)
  have p28_o20 : K28 (o + 20) = some (.inr (0, 384)) := by rw [eK28]; exact kS_ne p27_o20 (by omega)
  have p28_o21 : K28 (o + 21) = some (.inr (0, 384)) := by rw [eK28]; exact kS_ne p27_o21 (by omega)
  have p28_o22 : K28 (o + 22) = some (.inr (3, 384)) := by rw [eK28]; exact kS_ne p27_o22 (by omega)
  have p28_o23 : K28 (o + 23) = some (.inr (3, 384)) := by rw [eK28]; exact kS_ne p27_o23 (by omega)
  have p28_o24 : K28 (o + 24) = some (.inr (0, 384)) := by rw [eK28]; exact kS_ne p27_o24 (by omega)
  have p28_o25 : K28 (o + 25) = some (.inr (0, 384)) := by rw [eK28]; exact kS_ne p27_o25 (by omega)
  have p28_o26 : K28 (o + 26) = some (.inr (0, 384)) := by rw [eK28]; exact kS_ne p27_o26 (by omega)
  have p28_o27 : K28 (o + 27) = some (.inr (0, 384)) := by rw [eK28]; exact kS_ne q27 (by omega)
  have q28 : K28 (o + 28) = some (.inr (0, 384)) := by rw [eK28]; exact kS_eq
  obtain ⟨h56, eh56⟩ : ∃ q, q = sR h55 o 44 (some (o + 28)) := ⟨_, rfl⟩
  refine i_putF (h' := h56) (ty := .array (.int)) (sz := o + 29) X O (by decide +kernel) fl11_93r.1 (fun C T N h => by cases h; exact ⟨rfl, by decide +kernel⟩) (fun C T N h => by cases h; rfl) rfl rfl p28_o (by rw [fl11_93r.2, eh56]; exact Wr.r (x := some (o + 28))) ?_
  refine g_aload_n (n := 0) (sz := o + 29) X (by decide +kernel) 0 rfl ?_
  refine g_sipush (n := 4096) (x := (4096 : Int32)) (sz := o + 29) X (by decide +kernel) (by decide) ?_
  refine i_newa (aty := .int) (t := 0) (n := 4096) (sz := o + 29) X O (by decide +kernel) (by decide) rfl ac_0 rfl (by decide) (by decide) (by decide) (by decide) (by decide) ?_
  obtain ⟨K29, eK29⟩ : ∃ q, q = kS K28 (o + 29) (.inr (0, 4096)) := ⟨_, rfl⟩
  rw [← eK29]
  obtain ⟨h57, eh57⟩ : ∃ q, q = zr h56 (o + 29) := ⟨_, rfl⟩
  rw [← eh57]
  have p29_o : K29 (o) = some (.inl 23) := by rw [eK29]; exact kS_ne p28_o (by omega)
  have p29_o1 : K29 (o + 1) = some (.inr (1, 2400)) := by rw [eK29]; exact kS_ne p28_o1 (by omega)
  have p29_o2 : K29 (o + 2) = some (.inr (0, 4)) := by rw [eK29]; exact kS_ne p28_o2 (by omega)
  have p29_o3 : K29 (o + 3) = some (.inr (0, 4)) := by rw [eK29]; exact kS_ne p28_o3 (by omega)
  have p29_o4 : K29 (o + 4) = some (.inr (0, 4)) := by rw [eK29]; exact kS_ne p28_o4 (by omega)
  have p29_o5 : K29 (o + 5) = some (.inr (0, 12)) := by rw [eK29]; exact kS_ne p28_o5 (by omega)
  have p29_o6 : K29 (o + 6) = some (.inr (0, 976)) := by rw [eK29]; exact kS_ne p28_o6 (by omega)
  have p29_o7 : K29 (o + 7) = some (.inr (0, 968)) := by rw [eK29]; exact kS_ne p28_o7 (by omega)
  have p29_o8 : K29 (o + 8) = some (.inr (0, 136)) := by rw [eK29]; exact kS_ne p28_o8 (by omega)
  have p29_o9 : K29 (o + 9) = some (.inr (0, 122)) := by rw [eK29]; exact kS_ne p28_o9 (by omega)
  have p29_o10 : K29 (o + 10) = some (.inr (0, 4)) := by rw [eK29]; exact kS_ne p28_o10 (by omega)
  have p29_o11 : K29 (o + 11) = some (.inr (0, 36)) := by rw [eK29]; exact kS_ne p28_o11 (by omega)
  have p29_o12 : K29 (o + 12) = some (.inr (3, 6)) := by rw [eK29]; exact kS_ne p28_o12 (by omega)
  have p29_o13 : K29 (o + 13) = some (.inr (0, 36)) := by rw [eK29]; exact kS_ne p28_o13 (by omega)
  have p29_o14 : K29 (o + 14) = some (.inr (0, 6)) := by rw [eK29]; exact kS_ne p28_o14 (by omega)
  have p29_o15 : K29 (o + 15) = some (.inr (0, 36)) := by rw [eK29]; exact kS_ne p28_o15 (by omega)
  have p29_o16 : K29 (o + 16) = some (.inr (0, 36)) := by rw [eK29]; exact kS_ne p28_o16 (by omega)
  have p29_o17 : K29 (o + 17) = some (.inr (0, 36)) := by rw [eK29]; exact kS_ne p28_o17 (by omega)
  have p29_o18 : K29 (o + 18) = some (.inr (0, 6)) := by rw [eK29]; exact kS_ne p28_o18 (by omega)
  have p29_o19 : K29 (o + 19) = some (.inr (0, 384)) := by rw [eK29]; exact kS_ne p28_o19 (by omega)
  have p29_o20 : K29 (o + 20) = some (.inr (0, 384)) := by rw [eK29]; exact kS_ne p28_o20 (by omega)
  have p29_o21 : K29 (o + 21) = some (.inr (0, 384)) := by rw [eK29]; exact kS_ne p28_o21 (by omega)
  have p29_o22 : K29 (o + 22) = some (.inr (3, 384)) := by rw [eK29]; exact kS_ne p28_o22 (by omega)
  have p29_o23 : K29 (o + 23) = some (.inr (3, 384)) := by rw [eK29]; exact kS_ne p28_o23 (by omega)
  have p29_o24 : K29 (o + 24) = some (.inr (0, 384)) := by rw [eK29]; exact kS_ne p28_o24 (by omega)
  have p29_o25 : K29 (o + 25) = some (.inr (0, 384)) := by rw [eK29]; exact kS_ne p28_o25 (by omega)
  have p29_o26 : K29 (o + 26) = some (.inr (0, 384)) := by rw [eK29]; exact kS_ne p28_o26 (by omega)
  have p29_o27 : K29 (o + 27) = some (.inr (0, 384)) := by rw [eK29]; exact kS_ne p28_o27 (by omega)
  have p29_o28 : K29 (o + 28) = some (.inr (0, 384)) := by rw [eK29]; exact kS_ne q28 (by omega)
  have q29 : K29 (o + 29) = some (.inr (0, 4096)) := by rw [eK29]; exact kS_eq
  obtain ⟨h58, eh58⟩ : ∃ q, q = sR h57 o 46 (some (o + 29)) := ⟨_, rfl⟩
  refine i_putF (h' := h58) (ty := .array (.int)) (sz := o + 30) X O (by decide +kernel) fl11_96r.1 (fun C T N h => by cases h; exact ⟨rfl, by decide +kernel⟩) (fun C T N h => by cases h; rfl) rfl rfl p29_o (by rw [fl11_96r.2, eh58]; exact Wr.r (x := some (o + 29))) ?_
  refine g_aload_n (n := 0) (sz := o + 30) X (by decide +kernel) 0 rfl ?_
  refine g_sipush (n := 4096) (x := (4096 : Int32)) (sz := o + 30) X (by decide +kernel) (by decide) ?_
  refine i_newa (aty := .int) (t := 0) (n := 4096) (sz := o + 30) X O (by decide +kernel) (by decide) rfl ac_0 rfl (by decide) (by decide) (by decide) (by decide) (by decide) ?_
  obtain ⟨K30, eK30⟩ : ∃ q, q = kS K29 (o + 30) (.inr (0, 4096)) := ⟨_, rfl⟩
  rw [← eK30]
  obtain ⟨h59, eh59⟩ : ∃ q, q = zr h58 (o + 30) := ⟨_, rfl⟩
  rw [← eh59]
  have p30_o : K30 (o) = some (.inl 23) := by rw [eK30]; exact kS_ne p29_o (by omega)
  have p30_o1 : K30 (o + 1) = some (.inr (1, 2400)) := by rw [eK30]; exact kS_ne p29_o1 (by omega)
  have p30_o2 : K30 (o + 2) = some (.inr (0, 4)) := by rw [eK30]; exact kS_ne p29_o2 (by omega)
  have p30_o3 : K30 (o + 3) = some (.inr (0, 4)) := by rw [eK30]; exact kS_ne p29_o3 (by omega)
  have p30_o4 : K30 (o + 4) = some (.inr (0, 4)) := by rw [eK30]; exact kS_ne p29_o4 (by omega)
  have p30_o5 : K30 (o + 5) = some (.inr (0, 12)) := by rw [eK30]; exact kS_ne p29_o5 (by omega)
  have p30_o6 : K30 (o + 6) = some (.inr (0, 976)) := by rw [eK30]; exact kS_ne p29_o6 (by omega)
  have p30_o7 : K30 (o + 7) = some (.inr (0, 968)) := by rw [eK30]; exact kS_ne p29_o7 (by omega)
  have p30_o8 : K30 (o + 8) = some (.inr (0, 136)) := by rw [eK30]; exact kS_ne p29_o8 (by omega)
  have p30_o9 : K30 (o + 9) = some (.inr (0, 122)) := by rw [eK30]; exact kS_ne p29_o9 (by omega)
  have p30_o10 : K30 (o + 10) = some (.inr (0, 4)) := by rw [eK30]; exact kS_ne p29_o10 (by omega)
  have p30_o11 : K30 (o + 11) = some (.inr (0, 36)) := by rw [eK30]; exact kS_ne p29_o11 (by omega)
  have p30_o12 : K30 (o + 12) = some (.inr (3, 6)) := by rw [eK30]; exact kS_ne p29_o12 (by omega)
  have p30_o13 : K30 (o + 13) = some (.inr (0, 36)) := by rw [eK30]; exact kS_ne p29_o13 (by omega)
  have p30_o14 : K30 (o + 14) = some (.inr (0, 6)) := by rw [eK30]; exact kS_ne p29_o14 (by omega)
  have p30_o15 : K30 (o + 15) = some (.inr (0, 36)) := by rw [eK30]; exact kS_ne p29_o15 (by omega)
  have p30_o16 : K30 (o + 16) = some (.inr (0, 36)) := by rw [eK30]; exact kS_ne p29_o16 (by omega)
  have p30_o17 : K30 (o + 17) = some (.inr (0, 36)) := by rw [eK30]; exact kS_ne p29_o17 (by omega)
  have p30_o18 : K30 (o + 18) = some (.inr (0, 6)) := by rw [eK30]; exact kS_ne p29_o18 (by omega)
  have p30_o19 : K30 (o + 19) = some (.inr (0, 384)) := by rw [eK30]; exact kS_ne p29_o19 (by omega)
  have p30_o20 : K30 (o + 20) = some (.inr (0, 384)) := by rw [eK30]; exact kS_ne p29_o20 (by omega)
  have p30_o21 : K30 (o + 21) = some (.inr (0, 384)) := by rw [eK30]; exact kS_ne p29_o21 (by omega)
  have p30_o22 : K30 (o + 22) = some (.inr (3, 384)) := by rw [eK30]; exact kS_ne p29_o22 (by omega)
  have p30_o23 : K30 (o + 23) = some (.inr (3, 384)) := by rw [eK30]; exact kS_ne p29_o23 (by omega)
  have p30_o24 : K30 (o + 24) = some (.inr (0, 384)) := by rw [eK30]; exact kS_ne p29_o24 (by omega)
  have p30_o25 : K30 (o + 25) = some (.inr (0, 384)) := by rw [eK30]; exact kS_ne p29_o25 (by omega)
  have p30_o26 : K30 (o + 26) = some (.inr (0, 384)) := by rw [eK30]; exact kS_ne p29_o26 (by omega)
  have p30_o27 : K30 (o + 27) = some (.inr (0, 384)) := by rw [eK30]; exact kS_ne p29_o27 (by omega)
  have p30_o28 : K30 (o + 28) = some (.inr (0, 384)) := by rw [eK30]; exact kS_ne p29_o28 (by omega)
  have p30_o29 : K30 (o + 29) = some (.inr (0, 4096)) := by rw [eK30]; exact kS_ne q29 (by omega)
  have q30 : K30 (o + 30) = some (.inr (0, 4096)) := by rw [eK30]; exact kS_eq
  obtain ⟨h60, eh60⟩ : ∃ q, q = sR h59 o 47 (some (o + 30)) := ⟨_, rfl⟩
  refine i_putF (h' := h60) (ty := .array (.int)) (sz := o + 31) X O (by decide +kernel) fl11_99r.1 (fun C T N h => by cases h; exact ⟨rfl, by decide +kernel⟩) (fun C T N h => by cases h; rfl) rfl rfl p30_o (by rw [fl11_99r.2, eh60]; exact Wr.r (x := some (o + 30))) ?_
  refine g_aload_n (n := 0) (sz := o + 31) X (by decide +kernel) 0 rfl ?_
  refine g_sipush (n := 4096) (x := (4096 : Int32)) (sz := o + 31) X (by decide +kernel) (by decide) ?_
  refine i_newa (aty := .int) (t := 0) (n := 4096) (sz := o + 31) X O (by decide +kernel) (by decide) rfl ac_0 rfl (by decide) (by decide) (by decide) (by decide) (by decide) ?_
  obtain ⟨K31, eK31⟩ : ∃ q, q = kS K30 (o + 31) (.inr (0, 4096)) := ⟨_, rfl⟩
  rw [← eK31]
  obtain ⟨h61, eh61⟩ : ∃ q, q = zr h60 (o + 31) := ⟨_, rfl⟩
  rw [← eh61]
  have p31_o : K31 (o) = some (.inl 23) := by rw [eK31]; exact kS_ne p30_o (by omega)
  have p31_o1 : K31 (o + 1) = some (.inr (1, 2400)) := by rw [eK31]; exact kS_ne p30_o1 (by omega)
  have p31_o2 : K31 (o + 2) = some (.inr (0, 4)) := by rw [eK31]; exact kS_ne p30_o2 (by omega)
  have p31_o3 : K31 (o + 3) = some (.inr (0, 4)) := by rw [eK31]; exact kS_ne p30_o3 (by omega)
  have p31_o4 : K31 (o + 4) = some (.inr (0, 4)) := by rw [eK31]; exact kS_ne p30_o4 (by omega)
  have p31_o5 : K31 (o + 5) = some (.inr (0, 12)) := by rw [eK31]; exact kS_ne p30_o5 (by omega)
  have p31_o6 : K31 (o + 6) = some (.inr (0, 976)) := by rw [eK31]; exact kS_ne p30_o6 (by omega)
  have p31_o7 : K31 (o + 7) = some (.inr (0, 968)) := by rw [eK31]; exact kS_ne p30_o7 (by omega)
  have p31_o8 : K31 (o + 8) = some (.inr (0, 136)) := by rw [eK31]; exact kS_ne p30_o8 (by omega)
  have p31_o9 : K31 (o + 9) = some (.inr (0, 122)) := by rw [eK31]; exact kS_ne p30_o9 (by omega)
  have p31_o10 : K31 (o + 10) = some (.inr (0, 4)) := by rw [eK31]; exact kS_ne p30_o10 (by omega)
  have p31_o11 : K31 (o + 11) = some (.inr (0, 36)) := by rw [eK31]; exact kS_ne p30_o11 (by omega)
  have p31_o12 : K31 (o + 12) = some (.inr (3, 6)) := by rw [eK31]; exact kS_ne p30_o12 (by omega)
  have p31_o13 : K31 (o + 13) = some (.inr (0, 36)) := by rw [eK31]; exact kS_ne p30_o13 (by omega)
  have p31_o14 : K31 (o + 14) = some (.inr (0, 6)) := by rw [eK31]; exact kS_ne p30_o14 (by omega)
  have p31_o15 : K31 (o + 15) = some (.inr (0, 36)) := by rw [eK31]; exact kS_ne p30_o15 (by omega)
  have p31_o16 : K31 (o + 16) = some (.inr (0, 36)) := by rw [eK31]; exact kS_ne p30_o16 (by omega)
  have p31_o17 : K31 (o + 17) = some (.inr (0, 36)) := by rw [eK31]; exact kS_ne p30_o17 (by omega)
  have p31_o18 : K31 (o + 18) = some (.inr (0, 6)) := by rw [eK31]; exact kS_ne p30_o18 (by omega)
  have p31_o19 : K31 (o + 19) = some (.inr (0, 384)) := by rw [eK31]; exact kS_ne p30_o19 (by omega)
  have p31_o20 : K31 (o + 20) = some (.inr (0, 384)) := by rw [eK31]; exact kS_ne p30_o20 (by omega)
  have p31_o21 : K31 (o + 21) = some (.inr (0, 384)) := by rw [eK31]; exact kS_ne p30_o21 (by omega)
  have p31_o22 : K31 (o + 22) = some (.inr (3, 384)) := by rw [eK31]; exact kS_ne p30_o22 (by omega)
  have p31_o23 : K31 (o + 23) = some (.inr (3, 384)) := by rw [eK31]; exact kS_ne p30_o23 (by omega)
  have p31_o24 : K31 (o + 24) = some (.inr (0, 384)) := by rw [eK31]; exact kS_ne p30_o24 (by omega)
  have p31_o25 : K31 (o + 25) = some (.inr (0, 384)) := by rw [eK31]; exact kS_ne p30_o25 (by omega)
  have p31_o26 : K31 (o + 26) = some (.inr (0, 384)) := by rw [eK31]; exact kS_ne p30_o26 (by omega)
  have p31_o27 : K31 (o + 27) = some (.inr (0, 384)) := by rw [eK31]; exact kS_ne p30_o27 (by omega)
  have p31_o28 : K31 (o + 28) = some (.inr (0, 384)) := by rw [eK31]; exact kS_ne p30_o28 (by omega)
  have p31_o29 : K31 (o + 29) = some (.inr (0, 4096)) := by rw [eK31]; exact kS_ne p30_o29 (by omega)
  have p31_o30 : K31 (o + 30) = some (.inr (0, 4096)) := by rw [eK31]; exact kS_ne q30 (by omega)
  have q31 : K31 (o + 31) = some (.inr (0, 4096)) := by rw [eK31]; exact kS_eq
  obtain ⟨h62, eh62⟩ : ∃ q, q = sR h61 o 48 (some (o + 31)) := ⟨_, rfl⟩
  refine i_putF (h' := h62) (ty := .array (.int)) (sz := o + 32) X O (by decide +kernel) fl11_102r.1 (fun C T N h => by cases h; exact ⟨rfl, by decide +kernel⟩) (fun C T N h => by cases h; rfl) rfl rfl p31_o (by rw [fl11_102r.2, eh62]; exact Wr.r (x := some (o + 31))) ?_
  refine g_aload_n (n := 0) (sz := o + 32) X (by decide +kernel) 0 rfl ?_
  refine g_sipush (n := 4096) (x := (4096 : Int32)) (sz := o + 32) X (by decide +kernel) (by decide) ?_
  refine i_newa (aty := .int) (t := 0) (n := 4096) (sz := o + 32) X O (by decide +kernel) (by decide) rfl ac_0 rfl (by decide) (by decide) (by decide) (by decide) (by decide) ?_
  obtain ⟨K32, eK32⟩ : ∃ q, q = kS K31 (o + 32) (.inr (0, 4096)) := ⟨_, rfl⟩
  rw [← eK32]
  obtain ⟨h63, eh63⟩ : ∃ q, q = zr h62 (o + 32) := ⟨_, rfl⟩
  rw [← eh63]
  have p32_o : K32 (o) = some (.inl 23) := by rw [eK32]; exact kS_ne p31_o (by omega)
  have p32_o1 : K32 (o + 1) = some (.inr (1, 2400)) := by rw [eK32]; exact kS_ne p31_o1 (by omega)
  have p32_o2 : K32 (o + 2) = some (.inr (0, 4)) := by rw [eK32]; exact kS_ne p31_o2 (by omega)
  have p32_o3 : K32 (o + 3) = some (.inr (0, 4)) := by rw [eK32]; exact kS_ne p31_o3 (by omega)
  have p32_o4 : K32 (o + 4) = some (.inr (0, 4)) := by rw [eK32]; exact kS_ne p31_o4 (by omega)
  have p32_o5 : K32 (o + 5) = some (.inr (0, 12)) := by rw [eK32]; exact kS_ne p31_o5 (by omega)
  have p32_o6 : K32 (o + 6) = some (.inr (0, 976)) := by rw [eK32]; exact kS_ne p31_o6 (by omega)
  have p32_o7 : K32 (o + 7) = some (.inr (0, 968)) := by rw [eK32]; exact kS_ne p31_o7 (by omega)
  have p32_o8 : K32 (o + 8) = some (.inr (0, 136)) := by rw [eK32]; exact kS_ne p31_o8 (by omega)
  have p32_o9 : K32 (o + 9) = some (.inr (0, 122)) := by rw [eK32]; exact kS_ne p31_o9 (by omega)
  have p32_o10 : K32 (o + 10) = some (.inr (0, 4)) := by rw [eK32]; exact kS_ne p31_o10 (by omega)
  have p32_o11 : K32 (o + 11) = some (.inr (0, 36)) := by rw [eK32]; exact kS_ne p31_o11 (by omega)
  have p32_o12 : K32 (o + 12) = some (.inr (3, 6)) := by rw [eK32]; exact kS_ne p31_o12 (by omega)
  have p32_o13 : K32 (o + 13) = some (.inr (0, 36)) := by rw [eK32]; exact kS_ne p31_o13 (by omega)
  have p32_o14 : K32 (o + 14) = some (.inr (0, 6)) := by rw [eK32]; exact kS_ne p31_o14 (by omega)
  have p32_o15 : K32 (o + 15) = some (.inr (0, 36)) := by rw [eK32]; exact kS_ne p31_o15 (by omega)
  have p32_o16 : K32 (o + 16) = some (.inr (0, 36)) := by rw [eK32]; exact kS_ne p31_o16 (by omega)
  have p32_o17 : K32 (o + 17) = some (.inr (0, 36)) := by rw [eK32]; exact kS_ne p31_o17 (by omega)
  have p32_o18 : K32 (o + 18) = some (.inr (0, 6)) := by rw [eK32]; exact kS_ne p31_o18 (by omega)
  have p32_o19 : K32 (o + 19) = some (.inr (0, 384)) := by rw [eK32]; exact kS_ne p31_o19 (by omega)
  have p32_o20 : K32 (o + 20) = some (.inr (0, 384)) := by rw [eK32]; exact kS_ne p31_o20 (by omega)
  have p32_o21 : K32 (o + 21) = some (.inr (0, 384)) := by rw [eK32]; exact kS_ne p31_o21 (by omega)
  have p32_o22 : K32 (o + 22) = some (.inr (3, 384)) := by rw [eK32]; exact kS_ne p31_o22 (by omega)
  have p32_o23 : K32 (o + 23) = some (.inr (3, 384)) := by rw [eK32]; exact kS_ne p31_o23 (by omega)
  have p32_o24 : K32 (o + 24) = some (.inr (0, 384)) := by rw [eK32]; exact kS_ne p31_o24 (by omega)
  have p32_o25 : K32 (o + 25) = some (.inr (0, 384)) := by rw [eK32]; exact kS_ne p31_o25 (by omega)
  have p32_o26 : K32 (o + 26) = some (.inr (0, 384)) := by rw [eK32]; exact kS_ne p31_o26 (by omega)
  have p32_o27 : K32 (o + 27) = some (.inr (0, 384)) := by rw [eK32]; exact kS_ne p31_o27 (by omega)
  have p32_o28 : K32 (o + 28) = some (.inr (0, 384)) := by rw [eK32]; exact kS_ne p31_o28 (by omega)
  have p32_o29 : K32 (o + 29) = some (.inr (0, 4096)) := by rw [eK32]; exact kS_ne p31_o29 (by omega)
  have p32_o30 : K32 (o + 30) = some (.inr (0, 4096)) := by rw [eK32]; exact kS_ne p31_o30 (by omega)
  have p32_o31 : K32 (o + 31) = some (.inr (0, 4096)) := by rw [eK32]; exact kS_ne q31 (by omega)
  have q32 : K32 (o + 32) = some (.inr (0, 4096)) := by rw [eK32]; exact kS_eq
  obtain ⟨h64, eh64⟩ : ∃ q, q = sR h63 o 49 (some (o + 32)) := ⟨_, rfl⟩
  refine i_putF (h' := h64) (ty := .array (.int)) (sz := o + 33) X O (by decide +kernel) fl11_105r.1 (fun C T N h => by cases h; exact ⟨rfl, by decide +kernel⟩) (fun C T N h => by cases h; rfl) rfl rfl p32_o (by rw [fl11_105r.2, eh64]; exact Wr.r (x := some (o + 32))) ?_
  refine g_aload_n (n := 0) (sz := o + 33) X (by decide +kernel) 0 rfl ?_
  refine g_sipush (n := 4096) (x := (4096 : Int32)) (sz := o + 33) X (by decide +kernel) (by decide) ?_
  refine i_newa (aty := .int) (t := 0) (n := 4096) (sz := o + 33) X O (by decide +kernel) (by decide) rfl ac_0 rfl (by decide) (by decide) (by decide) (by decide) (by decide) ?_
  obtain ⟨K33, eK33⟩ : ∃ q, q = kS K32 (o + 33) (.inr (0, 4096)) := ⟨_, rfl⟩
  rw [← eK33]
  obtain ⟨h65, eh65⟩ : ∃ q, q = zr h64 (o + 33) := ⟨_, rfl⟩
  rw [← eh65]
  have p33_o : K33 (o) = some (.inl 23) := by rw [eK33]; exact kS_ne p32_o (by omega)
  have p33_o1 : K33 (o + 1) = some (.inr (1, 2400)) := by rw [eK33]; exact kS_ne p32_o1 (by omega)
  have p33_o2 : K33 (o + 2) = some (.inr (0, 4)) := by rw [eK33]; exact kS_ne p32_o2 (by omega)
  have p33_o3 : K33 (o + 3) = some (.inr (0, 4)) := by rw [eK33]; exact kS_ne p32_o3 (by omega)
  have p33_o4 : K33 (o + 4) = some (.inr (0, 4)) := by rw [eK33]; exact kS_ne p32_o4 (by omega)
  have p33_o5 : K33 (o + 5) = some (.inr (0, 12)) := by rw [eK33]; exact kS_ne p32_o5 (by omega)
  have p33_o6 : K33 (o + 6) = some (.inr (0, 976)) := by rw [eK33]; exact kS_ne p32_o6 (by omega)
  have p33_o7 : K33 (o + 7) = some (.inr (0, 968)) := by rw [eK33]; exact kS_ne p32_o7 (by omega)
  have p33_o8 : K33 (o + 8) = some (.inr (0, 136)) := by rw [eK33]; exact kS_ne p32_o8 (by omega)
  have p33_o9 : K33 (o + 9) = some (.inr (0, 122)) := by rw [eK33]; exact kS_ne p32_o9 (by omega)
  have p33_o10 : K33 (o + 10) = some (.inr (0, 4)) := by rw [eK33]; exact kS_ne p32_o10 (by omega)
  have p33_o11 : K33 (o + 11) = some (.inr (0, 36)) := by rw [eK33]; exact kS_ne p32_o11 (by omega)
  have p33_o12 : K33 (o + 12) = some (.inr (3, 6)) := by rw [eK33]; exact kS_ne p32_o12 (by omega)
  have p33_o13 : K33 (o + 13) = some (.inr (0, 36)) := by rw [eK33]; exact kS_ne p32_o13 (by omega)
  have p33_o14 : K33 (o + 14) = some (.inr (0, 6)) := by rw [eK33]; exact kS_ne p32_o14 (by omega)
  have p33_o15 : K33 (o + 15) = some (.inr (0, 36)) := by rw [eK33]; exact kS_ne p32_o15 (by omega)
  have p33_o16 : K33 (o + 16) = some (.inr (0, 36)) := by rw [eK33]; exact kS_ne p32_o16 (by omega)
  have p33_o17 : K33 (o + 17) = some (.inr (0, 36)) := by rw [eK33]; exact kS_ne p32_o17 (by omega)
  have p33_o18 : K33 (o + 18) = some (.inr (0, 6)) := by rw [eK33]; exact kS_ne p32_o18 (by omega)
  have p33_o19 : K33 (o + 19) = some (.inr (0, 384)) := by rw [eK33]; exact kS_ne p32_o19 (by omega)
  have p33_o20 : K33 (o + 20) = some (.inr (0, 384)) := by rw [eK33]; exact kS_ne p32_o20 (by omega)
  have p33_o21 : K33 (o + 21) = some (.inr (0, 384)) := by rw [eK33]; exact kS_ne p32_o21 (by omega)
  have p33_o22 : K33 (o + 22) = some (.inr (3, 384)) := by rw [eK33]; exact kS_ne p32_o22 (by omega)
  have p33_o23 : K33 (o + 23) = some (.inr (3, 384)) := by rw [eK33]; exact kS_ne p32_o23 (by omega)
  have p33_o24 : K33 (o + 24) = some (.inr (0, 384)) := by rw [eK33]; exact kS_ne p32_o24 (by omega)
  have p33_o25 : K33 (o + 25) = some (.inr (0, 384)) := by rw [eK33]; exact kS_ne p32_o25 (by omega)
  have p33_o26 : K33 (o + 26) = some (.inr (0, 384)) := by rw [eK33]; exact kS_ne p32_o26 (by omega)
  have p33_o27 : K33 (o + 27) = some (.inr (0, 384)) := by rw [eK33]; exact kS_ne p32_o27 (by omega)
  have p33_o28 : K33 (o + 28) = some (.inr (0, 384)) := by rw [eK33]; exact kS_ne p32_o28 (by omega)
  have p33_o29 : K33 (o + 29) = some (.inr (0, 4096)) := by rw [eK33]; exact kS_ne p32_o29 (by omega)
  have p33_o30 : K33 (o + 30) = some (.inr (0, 4096)) := by rw [eK33]; exact kS_ne p32_o30 (by omega)
  have p33_o31 : K33 (o + 31) = some (.inr (0, 4096)) := by rw [eK33]; exact kS_ne p32_o31 (by omega)
  have p33_o32 : K33 (o + 32) = some (.inr (0, 4096)) := by rw [eK33]; exact kS_ne q32 (by omega)
  have q33 : K33 (o + 33) = some (.inr (0, 4096)) := by rw [eK33]; exact kS_eq
  obtain ⟨h66, eh66⟩ : ∃ q, q = sR h65 o 50 (some (o + 33)) := ⟨_, rfl⟩
  refine i_putF (h' := h66) (ty := .array (.int)) (sz := o + 34) X O (by decide +kernel) fl11_108r.1 (fun C T N h => by cases h; exact ⟨rfl, by decide +kernel⟩) (fun C T N h => by cases h; rfl) rfl rfl p33_o (by rw [fl11_108r.2, eh66]; exact Wr.r (x := some (o + 33))) ?_
  refine g_aload_n (n := 0) (sz := o + 34) X (by decide +kernel) 0 rfl ?_
  refine g_sipush (n := 4096) (x := (4096 : Int32)) (sz := o + 34) X (by decide +kernel) (by decide) ?_
  refine i_newa (aty := .int) (t := 0) (n := 4096) (sz := o + 34) X O (by decide +kernel) (by decide) rfl ac_0 rfl (by decide) (by decide) (by decide) (by decide) (by decide) ?_
  obtain ⟨K34, eK34⟩ : ∃ q, q = kS K33 (o + 34) (.inr (0, 4096)) := ⟨_, rfl⟩
  rw [← eK34]
  obtain ⟨h67, eh67⟩ : ∃ q, q = zr h66 (o + 34) := ⟨_, rfl⟩
  rw [← eh67]
  have p34_o : K34 (o) = some (.inl 23) := by rw [eK34]; exact kS_ne p33_o (by omega)
  have p34_o1 : K34 (o + 1) = some (.inr (1, 2400)) := by rw [eK34]; exact kS_ne p33_o1 (by omega)
  have p34_o2 : K34 (o + 2) = some (.inr (0, 4)) := by rw [eK34]; exact kS_ne p33_o2 (by omega)
  have p34_o3 : K34 (o + 3) = some (.inr (0, 4)) := by rw [eK34]; exact kS_ne p33_o3 (by omega)
  have p34_o4 : K34 (o + 4) = some (.inr (0, 4)) := by rw [eK34]; exact kS_ne p33_o4 (by omega)
  have p34_o5 : K34 (o + 5) = some (.inr (0, 12)) := by rw [eK34]; exact kS_ne p33_o5 (by omega)
  have p34_o6 : K34 (o + 6) = some (.inr (0, 976)) := by rw [eK34]; exact kS_ne p33_o6 (by omega)
  have p34_o7 : K34 (o + 7) = some (.inr (0, 968)) := by rw [eK34]; exact kS_ne p33_o7 (by omega)
  have p34_o8 : K34 (o + 8) = some (.inr (0, 136)) := by rw [eK34]; exact kS_ne p33_o8 (by omega)
  have p34_o9 : K34 (o + 9) = some (.inr (0, 122)) := by rw [eK34]; exact kS_ne p33_o9 (by omega)
  have p34_o10 : K34 (o + 10) = some (.inr (0, 4)) := by rw [eK34]; exact kS_ne p33_o10 (by omega)
  have p34_o11 : K34 (o + 11) = some (.inr (0, 36)) := by rw [eK34]; exact kS_ne p33_o11 (by omega)
  have p34_o12 : K34 (o + 12) = some (.inr (3, 6)) := by rw [eK34]; exact kS_ne p33_o12 (by omega)
  have p34_o13 : K34 (o + 13) = some (.inr (0, 36)) := by rw [eK34]; exact kS_ne p33_o13 (by omega)
  have p34_o14 : K34 (o + 14) = some (.inr (0, 6)) := by rw [eK34]; exact kS_ne p33_o14 (by omega)
  have p34_o15 : K34 (o + 15) = some (.inr (0, 36)) := by rw [eK34]; exact kS_ne p33_o15 (by omega)
  have p34_o16 : K34 (o + 16) = some (.inr (0, 36)) := by rw [eK34]; exact kS_ne p33_o16 (by omega)
  have p34_o17 : K34 (o + 17) = some (.inr (0, 36)) := by rw [eK34]; exact kS_ne p33_o17 (by omega)
  have p34_o18 : K34 (o + 18) = some (.inr (0, 6)) := by rw [eK34]; exact kS_ne p33_o18 (by omega)
  have p34_o19 : K34 (o + 19) = some (.inr (0, 384)) := by rw [eK34]; exact kS_ne p33_o19 (by omega)
  have p34_o20 : K34 (o + 20) = some (.inr (0, 384)) := by rw [eK34]; exact kS_ne p33_o20 (by omega)
  have p34_o21 : K34 (o + 21) = some (.inr (0, 384)) := by rw [eK34]; exact kS_ne p33_o21 (by omega)
  have p34_o22 : K34 (o + 22) = some (.inr (3, 384)) := by rw [eK34]; exact kS_ne p33_o22 (by omega)
  have p34_o23 : K34 (o + 23) = some (.inr (3, 384)) := by rw [eK34]; exact kS_ne p33_o23 (by omega)
  have p34_o24 : K34 (o + 24) = some (.inr (0, 384)) := by rw [eK34]; exact kS_ne p33_o24 (by omega)
  have p34_o25 : K34 (o + 25) = some (.inr (0, 384)) := by rw [eK34]; exact kS_ne p33_o25 (by omega)
  have p34_o26 : K34 (o + 26) = some (.inr (0, 384)) := by rw [eK34]; exact kS_ne p33_o26 (by omega)
  have p34_o27 : K34 (o + 27) = some (.inr (0, 384)) := by rw [eK34]; exact kS_ne p33_o27 (by omega)
  have p34_o28 : K34 (o + 28) = some (.inr (0, 384)) := by rw [eK34]; exact kS_ne p33_o28 (by omega)
  have p34_o29 : K34 (o + 29) = some (.inr (0, 4096)) := by rw [eK34]; exact kS_ne p33_o29 (by omega)
  have p34_o30 : K34 (o + 30) = some (.inr (0, 4096)) := by rw [eK34]; exact kS_ne p33_o30 (by omega)
  have p34_o31 : K34 (o + 31) = some (.inr (0, 4096)) := by rw [eK34]; exact kS_ne p33_o31 (by omega)
  have p34_o32 : K34 (o + 32) = some (.inr (0, 4096)) := by rw [eK34]; exact kS_ne p33_o32 (by omega)
  have p34_o33 : K34 (o + 33) = some (.inr (0, 4096)) := by rw [eK34]; exact kS_ne q33 (by omega)
  have q34 : K34 (o + 34) = some (.inr (0, 4096)) := by rw [eK34]; exact kS_eq
  obtain ⟨h68, eh68⟩ : ∃ q, q = sR h67 o 51 (some (o + 34)) := ⟨_, rfl⟩
  refine i_putF (h' := h68) (ty := .array (.int)) (sz := o + 35) X O (by decide +kernel) fl11_111r.1 (fun C T N h => by cases h; exact ⟨rfl, by decide +kernel⟩) (fun C T N h => by cases h; rfl) rfl rfl p34_o (by rw [fl11_111r.2, eh68]; exact Wr.r (x := some (o + 34))) ?_
  refine g_aload_n (n := 0) (sz := o + 35) X (by decide +kernel) 0 rfl ?_
  refine g_sipush (n := 4096) (x := (4096 : Int32)) (sz := o + 35) X (by decide +kernel) (by decide) ?_
  refine i_newa (aty := .int) (t := 0) (n := 4096) (sz := o + 35) X O (by decide +kernel) (by decide) rfl ac_0 rfl (by decide) (by decide) (by decide) (by decide) (by decide) ?_
  obtain ⟨K35, eK35⟩ : ∃ q, q = kS K34 (o + 35) (.inr (0, 4096)) := ⟨_, rfl⟩
  rw [← eK35]
  obtain ⟨h69, eh69⟩ : ∃ q, q = zr h68 (o + 35) := ⟨_, rfl⟩
  rw [← eh69]
  have p35_o : K35 (o) = some (.inl 23) := by rw [eK35]; exact kS_ne p34_o (by omega)
  have p35_o1 : K35 (o + 1) = some (.inr (1, 2400)) := by rw [eK35]; exact kS_ne p34_o1 (by omega)
  have p35_o2 : K35 (o + 2) = some (.inr (0, 4)) := by rw [eK35]; exact kS_ne p34_o2 (by omega)
  have p35_o3 : K35 (o + 3) = some (.inr (0, 4)) := by rw [eK35]; exact kS_ne p34_o3 (by omega)
  have p35_o4 : K35 (o + 4) = some (.inr (0, 4)) := by rw [eK35]; exact kS_ne p34_o4 (by omega)
  have p35_o5 : K35 (o + 5) = some (.inr (0, 12)) := by rw [eK35]; exact kS_ne p34_o5 (by omega)
  have p35_o6 : K35 (o + 6) = some (.inr (0, 976)) := by rw [eK35]; exact kS_ne p34_o6 (by omega)
  have p35_o7 : K35 (o + 7) = some (.inr (0, 968)) := by rw [eK35]; exact kS_ne p34_o7 (by omega)
  have p35_o8 : K35 (o + 8) = some (.inr (0, 136)) := by rw [eK35]; exact kS_ne p34_o8 (by omega)
  have p35_o9 : K35 (o + 9) = some (.inr (0, 122)) := by rw [eK35]; exact kS_ne p34_o9 (by omega)
  have p35_o10 : K35 (o + 10) = some (.inr (0, 4)) := by rw [eK35]; exact kS_ne p34_o10 (by omega)
  have p35_o11 : K35 (o + 11) = some (.inr (0, 36)) := by rw [eK35]; exact kS_ne p34_o11 (by omega)
  have p35_o12 : K35 (o + 12) = some (.inr (3, 6)) := by rw [eK35]; exact kS_ne p34_o12 (by omega)
  have p35_o13 : K35 (o + 13) = some (.inr (0, 36)) := by rw [eK35]; exact kS_ne p34_o13 (by omega)
  have p35_o14 : K35 (o + 14) = some (.inr (0, 6)) := by rw [eK35]; exact kS_ne p34_o14 (by omega)
  have p35_o15 : K35 (o + 15) = some (.inr (0, 36)) := by rw [eK35]; exact kS_ne p34_o15 (by omega)
  have p35_o16 : K35 (o + 16) = some (.inr (0, 36)) := by rw [eK35]; exact kS_ne p34_o16 (by omega)
  have p35_o17 : K35 (o + 17) = some (.inr (0, 36)) := by rw [eK35]; exact kS_ne p34_o17 (by omega)
  have p35_o18 : K35 (o + 18) = some (.inr (0, 6)) := by rw [eK35]; exact kS_ne p34_o18 (by omega)
  have p35_o19 : K35 (o + 19) = some (.inr (0, 384)) := by rw [eK35]; exact kS_ne p34_o19 (by omega)
  have p35_o20 : K35 (o + 20) = some (.inr (0, 384)) := by rw [eK35]; exact kS_ne p34_o20 (by omega)
  have p35_o21 : K35 (o + 21) = some (.inr (0, 384)) := by rw [eK35]; exact kS_ne p34_o21 (by omega)
  have p35_o22 : K35 (o + 22) = some (.inr (3, 384)) := by rw [eK35]; exact kS_ne p34_o22 (by omega)
  have p35_o23 : K35 (o + 23) = some (.inr (3, 384)) := by rw [eK35]; exact kS_ne p34_o23 (by omega)
  have p35_o24 : K35 (o + 24) = some (.inr (0, 384)) := by rw [eK35]; exact kS_ne p34_o24 (by omega)
  have p35_o25 : K35 (o + 25) = some (.inr (0, 384)) := by rw [eK35]; exact kS_ne p34_o25 (by omega)
  have p35_o26 : K35 (o + 26) = some (.inr (0, 384)) := by rw [eK35]; exact kS_ne p34_o26 (by omega)
  have p35_o27 : K35 (o + 27) = some (.inr (0, 384)) := by rw [eK35]; exact kS_ne p34_o27 (by omega)
  have p35_o28 : K35 (o + 28) = some (.inr (0, 384)) := by rw [eK35]; exact kS_ne p34_o28 (by omega)
  have p35_o29 : K35 (o + 29) = some (.inr (0, 4096)) := by rw [eK35]; exact kS_ne p34_o29 (by omega)
  have p35_o30 : K35 (o + 30) = some (.inr (0, 4096)) := by rw [eK35]; exact kS_ne p34_o30 (by omega)
  have p35_o31 : K35 (o + 31) = some (.inr (0, 4096)) := by rw [eK35]; exact kS_ne p34_o31 (by omega)
  have p35_o32 : K35 (o + 32) = some (.inr (0, 4096)) := by rw [eK35]; exact kS_ne p34_o32 (by omega)
  have p35_o33 : K35 (o + 33) = some (.inr (0, 4096)) := by rw [eK35]; exact kS_ne p34_o33 (by omega)
  have p35_o34 : K35 (o + 34) = some (.inr (0, 4096)) := by rw [eK35]; exact kS_ne q34 (by omega)
  have q35 : K35 (o + 35) = some (.inr (0, 4096)) := by rw [eK35]; exact kS_eq
  obtain ⟨h70, eh70⟩ : ∃ q, q = sR h69 o 52 (some (o + 35)) := ⟨_, rfl⟩
  refine i_putF (h' := h70) (ty := .array (.int)) (sz := o + 36) X O (by decide +kernel) fl11_114r.1 (fun C T N h => by cases h; exact ⟨rfl, by decide +kernel⟩) (fun C T N h => by cases h; rfl) rfl rfl p35_o (by rw [fl11_114r.2, eh70]; exact Wr.r (x := some (o + 35))) ?_
  refine g_aload_n (n := 0) (sz := o + 36) X (by decide +kernel) 0 rfl ?_
  refine g_sipush (n := 4096) (x := (4096 : Int32)) (sz := o + 36) X (by decide +kernel) (by decide) ?_
  refine i_newa (aty := .int) (t := 0) (n := 4096) (sz := o + 36) X O (by decide +kernel) (by decide) rfl ac_0 rfl (by decide) (by decide) (by decide) (by decide) (by decide) ?_
  obtain ⟨K36, eK36⟩ : ∃ q, q = kS K35 (o + 36) (.inr (0, 4096)) := ⟨_, rfl⟩
  rw [← eK36]
  obtain ⟨h71, eh71⟩ : ∃ q, q = zr h70 (o + 36) := ⟨_, rfl⟩
  rw [← eh71]
  have p36_o : K36 (o) = some (.inl 23) := by rw [eK36]; exact kS_ne p35_o (by omega)
  have p36_o1 : K36 (o + 1) = some (.inr (1, 2400)) := by rw [eK36]; exact kS_ne p35_o1 (by omega)
  have p36_o2 : K36 (o + 2) = some (.inr (0, 4)) := by rw [eK36]; exact kS_ne p35_o2 (by omega)
  have p36_o3 : K36 (o + 3) = some (.inr (0, 4)) := by rw [eK36]; exact kS_ne p35_o3 (by omega)
  have p36_o4 : K36 (o + 4) = some (.inr (0, 4)) := by rw [eK36]; exact kS_ne p35_o4 (by omega)
  have p36_o5 : K36 (o + 5) = some (.inr (0, 12)) := by rw [eK36]; exact kS_ne p35_o5 (by omega)
  have p36_o6 : K36 (o + 6) = some (.inr (0, 976)) := by rw [eK36]; exact kS_ne p35_o6 (by omega)
  have p36_o7 : K36 (o + 7) = some (.inr (0, 968)) := by rw [eK36]; exact kS_ne p35_o7 (by omega)
  have p36_o8 : K36 (o + 8) = some (.inr (0, 136)) := by rw [eK36]; exact kS_ne p35_o8 (by omega)
  have p36_o9 : K36 (o + 9) = some (.inr (0, 122)) := by rw [eK36]; exact kS_ne p35_o9 (by omega)
  have p36_o10 : K36 (o + 10) = some (.inr (0, 4)) := by rw [eK36]; exact kS_ne p35_o10 (by omega)
  have p36_o11 : K36 (o + 11) = some (.inr (0, 36)) := by rw [eK36]; exact kS_ne p35_o11 (by omega)
  have p36_o12 : K36 (o + 12) = some (.inr (3, 6)) := by rw [eK36]; exact kS_ne p35_o12 (by omega)
  have p36_o13 : K36 (o + 13) = some (.inr (0, 36)) := by rw [eK36]; exact kS_ne p35_o13 (by omega)
  have p36_o14 : K36 (o + 14) = some (.inr (0, 6)) := by rw [eK36]; exact kS_ne p35_o14 (by omega)
  have p36_o15 : K36 (o + 15) = some (.inr (0, 36)) := by rw [eK36]; exact kS_ne p35_o15 (by omega)
  have p36_o16 : K36 (o + 16) = some (.inr (0, 36)) := by rw [eK36]; exact kS_ne p35_o16 (by omega)
  have p36_o17 : K36 (o + 17) = some (.inr (0, 36)) := by rw [eK36]; exact kS_ne p35_o17 (by omega)
  have p36_o18 : K36 (o + 18) = some (.inr (0, 6)) := by rw [eK36]; exact kS_ne p35_o18 (by omega)
  have p36_o19 : K36 (o + 19) = some (.inr (0, 384)) := by rw [eK36]; exact kS_ne p35_o19 (by omega)
  have p36_o20 : K36 (o + 20) = some (.inr (0, 384)) := by rw [eK36]; exact kS_ne p35_o20 (by omega)
  have p36_o21 : K36 (o + 21) = some (.inr (0, 384)) := by rw [eK36]; exact kS_ne p35_o21 (by omega)
  have p36_o22 : K36 (o + 22) = some (.inr (3, 384)) := by rw [eK36]; exact kS_ne p35_o22 (by omega)
  have p36_o23 : K36 (o + 23) = some (.inr (3, 384)) := by rw [eK36]; exact kS_ne p35_o23 (by omega)
  have p36_o24 : K36 (o + 24) = some (.inr (0, 384)) := by rw [eK36]; exact kS_ne p35_o24 (by omega)
  have p36_o25 : K36 (o + 25) = some (.inr (0, 384)) := by rw [eK36]; exact kS_ne p35_o25 (by omega)
  have p36_o26 : K36 (o + 26) = some (.inr (0, 384)) := by rw [eK36]; exact kS_ne p35_o26 (by omega)
  have p36_o27 : K36 (o + 27) = some (.inr (0, 384)) := by rw [eK36]; exact kS_ne p35_o27 (by omega)
  have p36_o28 : K36 (o + 28) = some (.inr (0, 384)) := by rw [eK36]; exact kS_ne p35_o28 (by omega)
  have p36_o29 : K36 (o + 29) = some (.inr (0, 4096)) := by rw [eK36]; exact kS_ne p35_o29 (by omega)
  have p36_o30 : K36 (o + 30) = some (.inr (0, 4096)) := by rw [eK36]; exact kS_ne p35_o30 (by omega)
  have p36_o31 : K36 (o + 31) = some (.inr (0, 4096)) := by rw [eK36]; exact kS_ne p35_o31 (by omega)
  have p36_o32 : K36 (o + 32) = some (.inr (0, 4096)) := by rw [eK36]; exact kS_ne p35_o32 (by omega)
  have p36_o33 : K36 (o + 33) = some (.inr (0, 4096)) := by rw [eK36]; exact kS_ne p35_o33 (by omega)
  have p36_o34 : K36 (o + 34) = some (.inr (0, 4096)) := by rw [eK36]; exact kS_ne p35_o34 (by omega)
  have p36_o35 : K36 (o + 35) = some (.inr (0, 4096)) := by rw [eK36]; exact kS_ne q35 (by omega)
  have q36 : K36 (o + 36) = some (.inr (0, 4096)) := by rw [eK36]; exact kS_eq
  obtain ⟨h72, eh72⟩ : ∃ q, q = sR h71 o 53 (some (o + 36)) := ⟨_, rfl⟩
  refine i_putF (h' := h72) (ty := .array (.int)) (sz := o + 37) X O (by decide +kernel) fl11_117r.1 (fun C T N h => by cases h; exact ⟨rfl, by decide +kernel⟩) (fun C T N h => by cases h; rfl) rfl rfl p36_o (by rw [fl11_117r.2, eh72]; exact Wr.r (x := some (o + 36))) ?_
  refine g_aload_n (n := 0) (sz := o + 37) X (by decide +kernel) 0 rfl ?_
  refine g_sipush (n := 4096) (x := (4096 : Int32)) (sz := o + 37) X (by decide +kernel) (by decide) ?_
  refine i_newa (aty := .int) (t := 0) (n := 4096) (sz := o + 37) X O (by decide +kernel) (by decide) rfl ac_0 rfl (by decide) (by decide) (by decide) (by decide) (by decide) ?_
  obtain ⟨K37, eK37⟩ : ∃ q, q = kS K36 (o + 37) (.inr (0, 4096)) := ⟨_, rfl⟩
  rw [← eK37]
  obtain ⟨h73, eh73⟩ : ∃ q, q = zr h72 (o + 37) := ⟨_, rfl⟩
  rw [← eh73]
  have p37_o : K37 (o) = some (.inl 23) := by rw [eK37]; exact kS_ne p36_o (by omega)
  have p37_o1 : K37 (o + 1) = some (.inr (1, 2400)) := by rw [eK37]; exact kS_ne p36_o1 (by omega)
  have p37_o2 : K37 (o + 2) = some (.inr (0, 4)) := by rw [eK37]; exact kS_ne p36_o2 (by omega)
  have p37_o3 : K37 (o + 3) = some (.inr (0, 4)) := by rw [eK37]; exact kS_ne p36_o3 (by omega)
  have p37_o4 : K37 (o + 4) = some (.inr (0, 4)) := by rw [eK37]; exact kS_ne p36_o4 (by omega)
  have p37_o5 : K37 (o + 5) = some (.inr (0, 12)) := by rw [eK37]; exact kS_ne p36_o5 (by omega)
  have p37_o6 : K37 (o + 6) = some (.inr (0, 976)) := by rw [eK37]; exact kS_ne p36_o6 (by omega)
  have p37_o7 : K37 (o + 7) = some (.inr (0, 968)) := by rw [eK37]; exact kS_ne p36_o7 (by omega)
  have p37_o8 : K37 (o + 8) = some (.inr (0, 136)) := by rw [eK37]; exact kS_ne p36_o8 (by omega)
  have p37_o9 : K37 (o + 9) = some (.inr (0, 122)) := by rw [eK37]; exact kS_ne p36_o9 (by omega)
  have p37_o10 : K37 (o + 10) = some (.inr (0, 4)) := by rw [eK37]; exact kS_ne p36_o10 (by omega)
  have p37_o11 : K37 (o + 11) = some (.inr (0, 36)) := by rw [eK37]; exact kS_ne p36_o11 (by omega)
  have p37_o12 : K37 (o + 12) = some (.inr (3, 6)) := by rw [eK37]; exact kS_ne p36_o12 (by omega)
  have p37_o13 : K37 (o + 13) = some (.inr (0, 36)) := by rw [eK37]; exact kS_ne p36_o13 (by omega)
  have p37_o14 : K37 (o + 14) = some (.inr (0, 6)) := by rw [eK37]; exact kS_ne p36_o14 (by omega)
  have p37_o15 : K37 (o + 15) = some (.inr (0, 36)) := by rw [eK37]; exact kS_ne p36_o15 (by omega)
  have p37_o16 : K37 (o + 16) = some (.inr (0, 36)) := by rw [eK37]; exact kS_ne p36_o16 (by omega)
  have p37_o17 : K37 (o + 17) = some (.inr (0, 36)) := by rw [eK37]; exact kS_ne p36_o17 (by omega)
  have p37_o18 : K37 (o + 18) = some (.inr (0, 6)) := by rw [eK37]; exact kS_ne p36_o18 (by omega)
  have p37_o19 : K37 (o + 19) = some (.inr (0, 384)) := by rw [eK37]; exact kS_ne p36_o19 (by omega)
  have p37_o20 : K37 (o + 20) = some (.inr (0, 384)) := by rw [eK37]; exact kS_ne p36_o20 (by omega)
  have p37_o21 : K37 (o + 21) = some (.inr (0, 384)) := by rw [eK37]; exact kS_ne p36_o21 (by omega)
  have p37_o22 : K37 (o + 22) = some (.inr (3, 384)) := by rw [eK37]; exact kS_ne p36_o22 (by omega)
  have p37_o23 : K37 (o + 23) = some (.inr (3, 384)) := by rw [eK37]; exact kS_ne p36_o23 (by omega)
  have p37_o24 : K37 (o + 24) = some (.inr (0, 384)) := by rw [eK37]; exact kS_ne p36_o24 (by omega)
  have p37_o25 : K37 (o + 25) = some (.inr (0, 384)) := by rw [eK37]; exact kS_ne p36_o25 (by omega)
  have p37_o26 : K37 (o + 26) = some (.inr (0, 384)) := by rw [eK37]; exact kS_ne p36_o26 (by omega)
  have p37_o27 : K37 (o + 27) = some (.inr (0, 384)) := by rw [eK37]; exact kS_ne p36_o27 (by omega)
  have p37_o28 : K37 (o + 28) = some (.inr (0, 384)) := by rw [eK37]; exact kS_ne p36_o28 (by omega)
  have p37_o29 : K37 (o + 29) = some (.inr (0, 4096)) := by rw [eK37]; exact kS_ne p36_o29 (by omega)
  have p37_o30 : K37 (o + 30) = some (.inr (0, 4096)) := by rw [eK37]; exact kS_ne p36_o30 (by omega)
  have p37_o31 : K37 (o + 31) = some (.inr (0, 4096)) := by rw [eK37]; exact kS_ne p36_o31 (by omega)
  have p37_o32 : K37 (o + 32) = some (.inr (0, 4096)) := by rw [eK37]; exact kS_ne p36_o32 (by omega)
  have p37_o33 : K37 (o + 33) = some (.inr (0, 4096)) := by rw [eK37]; exact kS_ne p36_o33 (by omega)
  have p37_o34 : K37 (o + 34) = some (.inr (0, 4096)) := by rw [eK37]; exact kS_ne p36_o34 (by omega)
  have p37_o35 : K37 (o + 35) = some (.inr (0, 4096)) := by rw [eK37]; exact kS_ne p36_o35 (by omega)
  have p37_o36 : K37 (o + 36) = some (.inr (0, 4096)) := by rw [eK37]; exact kS_ne q36 (by omega)
  have q37 : K37 (o + 37) = some (.inr (0, 4096)) := by rw [eK37]; exact kS_eq
  obtain ⟨h74, eh74⟩ : ∃ q, q = sR h73 o 54 (some (o + 37)) := ⟨_, rfl⟩
  refine i_putF (h' := h74) (ty := .array (.int)) (sz := o + 38) X O (by decide +kernel) fl11_120r.1 (fun C T N h => by cases h; exact ⟨rfl, by decide +kernel⟩) (fun C T N h => by cases h; rfl) rfl rfl p37_o (by rw [fl11_120r.2, eh74]; exact Wr.r (x := some (o + 37))) ?_
  refine g_aload_n (n := 0) (sz := o + 38) X (by decide +kernel) 0 rfl ?_
  refine g_sipush (n := 4096) (x := (4096 : Int32)) (sz := o + 38) X (by decide +kernel) (by decide) ?_
  refine i_newa (aty := .int) (t := 0) (n := 4096) (sz := o + 38) X O (by decide +kernel) (by decide) rfl ac_0 rfl (by decide) (by decide) (by decide) (by decide) (by decide) ?_
  obtain ⟨K38, eK38⟩ : ∃ q, q = kS K37 (o + 38) (.inr (0, 4096)) := ⟨_, rfl⟩
  rw [← eK38]
  obtain ⟨h75, eh75⟩ : ∃ q, q = zr h74 (o + 38) := ⟨_, rfl⟩
  rw [← eh75]
  have p38_o : K38 (o) = some (.inl 23) := by rw [eK38]; exact kS_ne p37_o (by omega)
  have p38_o1 : K38 (o + 1) = some (.inr (1, 2400)) := by rw [eK38]; exact kS_ne p37_o1 (by omega)
  have p38_o2 : K38 (o + 2) = some (.inr (0, 4)) := by rw [eK38]; exact kS_ne p37_o2 (by omega)
  have p38_o3 : K38 (o + 3) = some (.inr (0, 4)) := by rw [eK38]; exact kS_ne p37_o3 (by omega)
  have p38_o4 : K38 (o + 4) = some (.inr (0, 4)) := by rw [eK38]; exact kS_ne p37_o4 (by omega)
  have p38_o5 : K38 (o + 5) = some (.inr (0, 12)) := by rw [eK38]; exact kS_ne p37_o5 (by omega)
  have p38_o6 : K38 (o + 6) = some (.inr (0, 976)) := by rw [eK38]; exact kS_ne p37_o6 (by omega)
  have p38_o7 : K38 (o + 7) = some (.inr (0, 968)) := by rw [eK38]; exact kS_ne p37_o7 (by omega)
  have p38_o8 : K38 (o + 8) = some (.inr (0, 136)) := by rw [eK38]; exact kS_ne p37_o8 (by omega)
  have p38_o9 : K38 (o + 9) = some (.inr (0, 122)) := by rw [eK38]; exact kS_ne p37_o9 (by omega)
  have p38_o10 : K38 (o + 10) = some (.inr (0, 4)) := by rw [eK38]; exact kS_ne p37_o10 (by omega)
  have p38_o11 : K38 (o + 11) = some (.inr (0, 36)) := by rw [eK38]; exact kS_ne p37_o11 (by omega)
  have p38_o12 : K38 (o + 12) = some (.inr (3, 6)) := by rw [eK38]; exact kS_ne p37_o12 (by omega)
  have p38_o13 : K38 (o + 13) = some (.inr (0, 36)) := by rw [eK38]; exact kS_ne p37_o13 (by omega)
  have p38_o14 : K38 (o + 14) = some (.inr (0, 6)) := by rw [eK38]; exact kS_ne p37_o14 (by omega)
  have p38_o15 : K38 (o + 15) = some (.inr (0, 36)) := by rw [eK38]; exact kS_ne p37_o15 (by omega)
  have p38_o16 : K38 (o + 16) = some (.inr (0, 36)) := by rw [eK38]; exact kS_ne p37_o16 (by omega)
  have p38_o17 : K38 (o + 17) = some (.inr (0, 36)) := by rw [eK38]; exact kS_ne p37_o17 (by omega)
  have p38_o18 : K38 (o + 18) = some (.inr (0, 6)) := by rw [eK38]; exact kS_ne p37_o18 (by omega)
  have p38_o19 : K38 (o + 19) = some (.inr (0, 384)) := by rw [eK38]; exact kS_ne p37_o19 (by omega)
  have p38_o20 : K38 (o + 20) = some (.inr (0, 384)) := by rw [eK38]; exact kS_ne p37_o20 (by omega)
  have p38_o21 : K38 (o + 21) = some (.inr (0, 384)) := by rw [eK38]; exact kS_ne p37_o21 (by omega)
  have p38_o22 : K38 (o + 22) = some (.inr (3, 384)) := by rw [eK38]; exact kS_ne p37_o22 (by omega)
  have p38_o23 : K38 (o + 23) = some (.inr (3, 384)) := by rw [eK38]; exact kS_ne p37_o23 (by omega)
  have p38_o24 : K38 (o + 24) = some (.inr (0, 384)) := by rw [eK38]; exact kS_ne p37_o24 (by omega)
  have p38_o25 : K38 (o + 25) = some (.inr (0, 384)) := by rw [eK38]; exact kS_ne p37_o25 (by omega)
  have p38_o26 : K38 (o + 26) = some (.inr (0, 384)) := by rw [eK38]; exact kS_ne p37_o26 (by omega)
  have p38_o27 : K38 (o + 27) = some (.inr (0, 384)) := by rw [eK38]; exact kS_ne p37_o27 (by omega)
  have p38_o28 : K38 (o + 28) = some (.inr (0, 384)) := by rw [eK38]; exact kS_ne p37_o28 (by omega)
  have p38_o29 : K38 (o + 29) = some (.inr (0, 4096)) := by rw [eK38]; exact kS_ne p37_o29 (by omega)
  have p38_o30 : K38 (o + 30) = some (.inr (0, 4096)) := by rw [eK38]; exact kS_ne p37_o30 (by omega)
  have p38_o31 : K38 (o + 31) = some (.inr (0, 4096)) := by rw [eK38]; exact kS_ne p37_o31 (by omega)
  have p38_o32 : K38 (o + 32) = some (.inr (0, 4096)) := by rw [eK38]; exact kS_ne p37_o32 (by omega)
  have p38_o33 : K38 (o + 33) = some (.inr (0, 4096)) := by rw [eK38]; exact kS_ne p37_o33 (by omega)
  have p38_o34 : K38 (o + 34) = some (.inr (0, 4096)) := by rw [eK38]; exact kS_ne p37_o34 (by omega)
  have p38_o35 : K38 (o + 35) = some (.inr (0, 4096)) := by rw [eK38]; exact kS_ne p37_o35 (by omega)
  have p38_o36 : K38 (o + 36) = some (.inr (0, 4096)) := by rw [eK38]; exact kS_ne p37_o36 (by omega)
  have p38_o37 : K38 (o + 37) = some (.inr (0, 4096)) := by rw [eK38]; exact kS_ne q37 (by omega)
  have q38 : K38 (o + 38) = some (.inr (0, 4096)) := by rw [eK38]; exact kS_eq
  obtain ⟨h76, eh76⟩ : ∃ q, q = sR h75 o 55 (some (o + 38)) := ⟨_, rfl⟩
  refine i_putF (h' := h76) (ty := .array (.int)) (sz := o + 39) X O (by decide +kernel) fl11_123r.1 (fun C T N h => by cases h; exact ⟨rfl, by decide +kernel⟩) (fun C T N h => by cases h; rfl) rfl rfl p38_o (by rw [fl11_123r.2, eh76]; exact Wr.r (x := some (o + 38))) ?_
  refine g_aload_n (n := 0) (sz := o + 39) X (by decide +kernel) 0 rfl ?_
  refine g_sipush (n := 4096) (x := (4096 : Int32)) (sz := o + 39) X (by decide +kernel) (by decide) ?_
  refine i_newa (aty := .int) (t := 0) (n := 4096) (sz := o + 39) X O (by decide +kernel) (by decide) rfl ac_0 rfl (by decide) (by decide) (by decide) (by decide) (by decide) ?_
  obtain ⟨K39, eK39⟩ : ∃ q, q = kS K38 (o + 39) (.inr (0, 4096)) := ⟨_, rfl⟩
  rw [← eK39]
  obtain ⟨h77, eh77⟩ : ∃ q, q = zr h76 (o + 39) := ⟨_, rfl⟩
  rw [← eh77]
  have p39_o : K39 (o) = some (.inl 23) := by rw [eK39]; exact kS_ne p38_o (by omega)
  have p39_o1 : K39 (o + 1) = some (.inr (1, 2400)) := by rw [eK39]; exact kS_ne p38_o1 (by omega)
  have p39_o2 : K39 (o + 2) = some (.inr (0, 4)) := by rw [eK39]; exact kS_ne p38_o2 (by omega)
  have p39_o3 : K39 (o + 3) = some (.inr (0, 4)) := by rw [eK39]; exact kS_ne p38_o3 (by omega)
  have p39_o4 : K39 (o + 4) = some (.inr (0, 4)) := by rw [eK39]; exact kS_ne p38_o4 (by omega)
  have p39_o5 : K39 (o + 5) = some (.inr (0, 12)) := by rw [eK39]; exact kS_ne p38_o5 (by omega)
  have p39_o6 : K39 (o + 6) = some (.inr (0, 976)) := by rw [eK39]; exact kS_ne p38_o6 (by omega)
  have p39_o7 : K39 (o + 7) = some (.inr (0, 968)) := by rw [eK39]; exact kS_ne p38_o7 (by omega)
  have p39_o8 : K39 (o + 8) = some (.inr (0, 136)) := by rw [eK39]; exact kS_ne p38_o8 (by omega)
  have p39_o9 : K39 (o + 9) = some (.inr (0, 122)) := by rw [eK39]; exact kS_ne p38_o9 (by omega)
  have p39_o10 : K39 (o + 10) = some (.inr (0, 4)) := by rw [eK39]; exact kS_ne p38_o10 (by omega)
  have p39_o11 : K39 (o + 11) = some (.inr (0, 36)) := by rw [eK39]; exact kS_ne p38_o11 (by omega)
  have p39_o12 : K39 (o + 12) = some (.inr (3, 6)) := by rw [eK39]; exact kS_ne p38_o12 (by omega)
  have p39_o13 : K39 (o + 13) = some (.inr (0, 36)) := by rw [eK39]; exact kS_ne p38_o13 (by omega)
  have p39_o14 : K39 (o + 14) = some (.inr (0, 6)) := by rw [eK39]; exact kS_ne p38_o14 (by omega)
  have p39_o15 : K39 (o + 15) = some (.inr (0, 36)) := by rw [eK39]; exact kS_ne p38_o15 (by omega)
  have p39_o16 : K39 (o + 16) = some (.inr (0, 36)) := by rw [eK39]; exact kS_ne p38_o16 (by omega)
  have p39_o17 : K39 (o + 17) = some (.inr (0, 36)) := by rw [eK39]; exact kS_ne p38_o17 (by omega)
  have p39_o18 : K39 (o + 18) = some (.inr (0, 6)) := by rw [eK39]; exact kS_ne p38_o18 (by omega)
  have p39_o19 : K39 (o + 19) = some (.inr (0, 384)) := by rw [eK39]; exact kS_ne p38_o19 (by omega)
  have p39_o20 : K39 (o + 20) = some (.inr (0, 384)) := by rw [eK39]; exact kS_ne p38_o20 (by omega)
  have p39_o21 : K39 (o + 21) = some (.inr (0, 384)) := by rw [eK39]; exact kS_ne p38_o21 (by omega)
  have p39_o22 : K39 (o + 22) = some (.inr (3, 384)) := by rw [eK39]; exact kS_ne p38_o22 (by omega)
  have p39_o23 : K39 (o + 23) = some (.inr (3, 384)) := by rw [eK39]; exact kS_ne p38_o23 (by omega)
  have p39_o24 : K39 (o + 24) = some (.inr (0, 384)) := by rw [eK39]; exact kS_ne p38_o24 (by omega)
  have p39_o25 : K39 (o + 25) = some (.inr (0, 384)) := by rw [eK39]; exact kS_ne p38_o25 (by omega)
  have p39_o26 : K39 (o + 26) = some (.inr (0, 384)) := by rw [eK39]; exact kS_ne p38_o26 (by omega)
  have p39_o27 : K39 (o + 27) = some (.inr (0, 384)) := by rw [eK39]; exact kS_ne p38_o27 (by omega)
  have p39_o28 : K39 (o + 28) = some (.inr (0, 384)) := by rw [eK39]; exact kS_ne p38_o28 (by omega)
  have p39_o29 : K39 (o + 29) = some (.inr (0, 4096)) := by rw [eK39]; exact kS_ne p38_o29 (by omega)
  have p39_o30 : K39 (o + 30) = some (.inr (0, 4096)) := by rw [eK39]; exact kS_ne p38_o30 (by omega)
  have p39_o31 : K39 (o + 31) = some (.inr (0, 4096)) := by rw [eK39]; exact kS_ne p38_o31 (by omega)
  have p39_o32 : K39 (o + 32) = some (.inr (0, 4096)) := by rw [eK39]; exact kS_ne p38_o32 (by omega)
  have p39_o33 : K39 (o + 33) = some (.inr (0, 4096)) := by rw [eK39]; exact kS_ne p38_o33 (by omega)
  have p39_o34 : K39 (o + 34) = some (.inr (0, 4096)) := by rw [eK39]; exact kS_ne p38_o34 (by omega)
  have p39_o35 : K39 (o + 35) = some (.inr (0, 4096)) := by rw [eK39]; exact kS_ne p38_o35 (by omega)
  have p39_o36 : K39 (o + 36) = some (.inr (0, 4096)) := by rw [eK39]; exact kS_ne p38_o36 (by omega)
  have p39_o37 : K39 (o + 37) = some (.inr (0, 4096)) := by rw [eK39]; exact kS_ne p38_o37 (by omega)
  have p39_o38 : K39 (o + 38) = some (.inr (0, 4096)) := by rw [eK39]; exact kS_ne q38 (by omega)
  have q39 : K39 (o + 39) = some (.inr (0, 4096)) := by rw [eK39]; exact kS_eq
  obtain ⟨h78, eh78⟩ : ∃ q, q = sR h77 o 56 (some (o + 39)) := ⟨_, rfl⟩
  refine i_putF (h' := h78) (ty := .array (.int)) (sz := o + 40) X O (by decide +kernel) fl11_126r.1 (fun C T N h => by cases h; exact ⟨rfl, by decide +kernel⟩) (fun C T N h => by cases h; rfl) rfl rfl p39_o (by rw [fl11_126r.2, eh78]; exact Wr.r (x := some (o + 39))) ?_
  refine g_aload_n (n := 0) (sz := o + 40) X (by decide +kernel) 0 rfl ?_
  refine g_bipush (n := 64) (x := (64 : Int32)) (sz := o + 40) X (by decide +kernel) (by decide) ?_
  refine i_newa (aty := .int) (t := 0) (n := 64) (sz := o + 40) X O (by decide +kernel) (by decide) rfl ac_0 rfl (by decide) (by decide) (by decide) (by decide) (by decide) ?_
  obtain ⟨K40, eK40⟩ : ∃ q, q = kS K39 (o + 40) (.inr (0, 64)) := ⟨_, rfl⟩
  rw [← eK40]
  obtain ⟨h79, eh79⟩ : ∃ q, q = zr h78 (o + 40) := ⟨_, rfl⟩
  rw [← eh79]
  have p40_o : K40 (o) = some (.inl 23) := by rw [eK40]; exact kS_ne p39_o (by omega)
  have p40_o1 : K40 (o + 1) = some (.inr (1, 2400)) := by rw [eK40]; exact kS_ne p39_o1 (by omega)
  have p40_o2 : K40 (o + 2) = some (.inr (0, 4)) := by rw [eK40]; exact kS_ne p39_o2 (by omega)
  have p40_o3 : K40 (o + 3) = some (.inr (0, 4)) := by rw [eK40]; exact kS_ne p39_o3 (by omega)
  have p40_o4 : K40 (o + 4) = some (.inr (0, 4)) := by rw [eK40]; exact kS_ne p39_o4 (by omega)
  have p40_o5 : K40 (o + 5) = some (.inr (0, 12)) := by rw [eK40]; exact kS_ne p39_o5 (by omega)
  have p40_o6 : K40 (o + 6) = some (.inr (0, 976)) := by rw [eK40]; exact kS_ne p39_o6 (by omega)
  have p40_o7 : K40 (o + 7) = some (.inr (0, 968)) := by rw [eK40]; exact kS_ne p39_o7 (by omega)
  have p40_o8 : K40 (o + 8) = some (.inr (0, 136)) := by rw [eK40]; exact kS_ne p39_o8 (by omega)
  have p40_o9 : K40 (o + 9) = some (.inr (0, 122)) := by rw [eK40]; exact kS_ne p39_o9 (by omega)
  have p40_o10 : K40 (o + 10) = some (.inr (0, 4)) := by rw [eK40]; exact kS_ne p39_o10 (by omega)
  have p40_o11 : K40 (o + 11) = some (.inr (0, 36)) := by rw [eK40]; exact kS_ne p39_o11 (by omega)
  have p40_o12 : K40 (o + 12) = some (.inr (3, 6)) := by rw [eK40]; exact kS_ne p39_o12 (by omega)
  have p40_o13 : K40 (o + 13) = some (.inr (0, 36)) := by rw [eK40]; exact kS_ne p39_o13 (by omega)
  have p40_o14 : K40 (o + 14) = some (.inr (0, 6)) := by rw [eK40]; exact kS_ne p39_o14 (by omega)
  have p40_o15 : K40 (o + 15) = some (.inr (0, 36)) := by rw [eK40]; exact kS_ne p39_o15 (by omega)
  have p40_o16 : K40 (o + 16) = some (.inr (0, 36)) := by rw [eK40]; exact kS_ne p39_o16 (by omega)
  have p40_o17 : K40 (o + 17) = some (.inr (0, 36)) := by rw [eK40]; exact kS_ne p39_o17 (by omega)
  have p40_o18 : K40 (o + 18) = some (.inr (0, 6)) := by rw [eK40]; exact kS_ne p39_o18 (by omega)
  have p40_o19 : K40 (o + 19) = some (.inr (0, 384)) := by rw [eK40]; exact kS_ne p39_o19 (by omega)
  have p40_o20 : K40 (o + 20) = some (.inr (0, 384)) := by rw [eK40]; exact kS_ne p39_o20 (by omega)
  have p40_o21 : K40 (o + 21) = some (.inr (0, 384)) := by rw [eK40]; exact kS_ne p39_o21 (by omega)
  have p40_o22 : K40 (o + 22) = some (.inr (3, 384)) := by rw [eK40]; exact kS_ne p39_o22 (by omega)
  have p40_o23 : K40 (o + 23) = some (.inr (3, 384)) := by rw [eK40]; exact kS_ne p39_o23 (by omega)
  have p40_o24 : K40 (o + 24) = some (.inr (0, 384)) := by rw [eK40]; exact kS_ne p39_o24 (by omega)
  have p40_o25 : K40 (o + 25) = some (.inr (0, 384)) := by rw [eK40]; exact kS_ne p39_o25 (by omega)
  have p40_o26 : K40 (o + 26) = some (.inr (0, 384)) := by rw [eK40]; exact kS_ne p39_o26 (by omega)
  have p40_o27 : K40 (o + 27) = some (.inr (0, 384)) := by rw [eK40]; exact kS_ne p39_o27 (by omega)
  have p40_o28 : K40 (o + 28) = some (.inr (0, 384)) := by rw [eK40]; exact kS_ne p39_o28 (by omega)
  have p40_o29 : K40 (o + 29) = some (.inr (0, 4096)) := by rw [eK40]; exact kS_ne p39_o29 (by omega)
  have p40_o30 : K40 (o + 30) = some (.inr (0, 4096)) := by rw [eK40]; exact kS_ne p39_o30 (by omega)
  have p40_o31 : K40 (o + 31) = some (.inr (0, 4096)) := by rw [eK40]; exact kS_ne p39_o31 (by omega)
  have p40_o32 : K40 (o + 32) = some (.inr (0, 4096)) := by rw [eK40]; exact kS_ne p39_o32 (by omega)
  have p40_o33 : K40 (o + 33) = some (.inr (0, 4096)) := by rw [eK40]; exact kS_ne p39_o33 (by omega)
  have p40_o34 : K40 (o + 34) = some (.inr (0, 4096)) := by rw [eK40]; exact kS_ne p39_o34 (by omega)
  have p40_o35 : K40 (o + 35) = some (.inr (0, 4096)) := by rw [eK40]; exact kS_ne p39_o35 (by omega)
  have p40_o36 : K40 (o + 36) = some (.inr (0, 4096)) := by rw [eK40]; exact kS_ne p39_o36 (by omega)
  have p40_o37 : K40 (o + 37) = some (.inr (0, 4096)) := by rw [eK40]; exact kS_ne p39_o37 (by omega)
  have p40_o38 : K40 (o + 38) = some (.inr (0, 4096)) := by rw [eK40]; exact kS_ne p39_o38 (by omega)
  have p40_o39 : K40 (o + 39) = some (.inr (0, 4096)) := by rw [eK40]; exact kS_ne q39 (by omega)
  have q40 : K40 (o + 40) = some (.inr (0, 64)) := by rw [eK40]; exact kS_eq
  obtain ⟨h80, eh80⟩ : ∃ q, q = sR h79 o 57 (some (o + 40)) := ⟨_, rfl⟩
  refine i_putF (h' := h80) (ty := .array (.int)) (sz := o + 41) X O (by decide +kernel) fl11_129r.1 (fun C T N h => by cases h; exact ⟨rfl, by decide +kernel⟩) (fun C T N h => by cases h; rfl) rfl rfl p40_o (by rw [fl11_129r.2, eh80]; exact Wr.r (x := some (o + 40))) ?_
  refine g_aload_n (n := 0) (sz := o + 41) X (by decide +kernel) 0 rfl ?_
  refine g_bipush (n := 64) (x := (64 : Int32)) (sz := o + 41) X (by decide +kernel) (by decide) ?_
  refine i_newa (aty := .int) (t := 0) (n := 64) (sz := o + 41) X O (by decide +kernel) (by decide) rfl ac_0 rfl (by decide) (by decide) (by decide) (by decide) (by decide) ?_
  obtain ⟨K41, eK41⟩ : ∃ q, q = kS K40 (o + 41) (.inr (0, 64)) := ⟨_, rfl⟩
  rw [← eK41]
  obtain ⟨h81, eh81⟩ : ∃ q, q = zr h80 (o + 41) := ⟨_, rfl⟩
  rw [← eh81]
  have p41_o : K41 (o) = some (.inl 23) := by rw [eK41]; exact kS_ne p40_o (by omega)
  have p41_o1 : K41 (o + 1) = some (.inr (1, 2400)) := by rw [eK41]; exact kS_ne p40_o1 (by omega)
  have p41_o2 : K41 (o + 2) = some (.inr (0, 4)) := by rw [eK41]; exact kS_ne p40_o2 (by omega)
  have p41_o3 : K41 (o + 3) = some (.inr (0, 4)) := by rw [eK41]; exact kS_ne p40_o3 (by omega)
  have p41_o4 : K41 (o + 4) = some (.inr (0, 4)) := by rw [eK41]; exact kS_ne p40_o4 (by omega)
  have p41_o5 : K41 (o + 5) = some (.inr (0, 12)) := by rw [eK41]; exact kS_ne p40_o5 (by omega)
  have p41_o6 : K41 (o + 6) = some (.inr (0, 976)) := by rw [eK41]; exact kS_ne p40_o6 (by omega)
  have p41_o7 : K41 (o + 7) = some (.inr (0, 968)) := by rw [eK41]; exact kS_ne p40_o7 (by omega)
  have p41_o8 : K41 (o + 8) = some (.inr (0, 136)) := by rw [eK41]; exact kS_ne p40_o8 (by omega)
  have p41_o9 : K41 (o + 9) = some (.inr (0, 122)) := by rw [eK41]; exact kS_ne p40_o9 (by omega)
  have p41_o10 : K41 (o + 10) = some (.inr (0, 4)) := by rw [eK41]; exact kS_ne p40_o10 (by omega)
  have p41_o11 : K41 (o + 11) = some (.inr (0, 36)) := by rw [eK41]; exact kS_ne p40_o11 (by omega)
  have p41_o12 : K41 (o + 12) = some (.inr (3, 6)) := by rw [eK41]; exact kS_ne p40_o12 (by omega)
  have p41_o13 : K41 (o + 13) = some (.inr (0, 36)) := by rw [eK41]; exact kS_ne p40_o13 (by omega)
  have p41_o14 : K41 (o + 14) = some (.inr (0, 6)) := by rw [eK41]; exact kS_ne p40_o14 (by omega)
  have p41_o15 : K41 (o + 15) = some (.inr (0, 36)) := by rw [eK41]; exact kS_ne p40_o15 (by omega)
  have p41_o16 : K41 (o + 16) = some (.inr (0, 36)) := by rw [eK41]; exact kS_ne p40_o16 (by omega)
  have p41_o17 : K41 (o + 17) = some (.inr (0, 36)) := by rw [eK41]; exact kS_ne p40_o17 (by omega)
  have p41_o18 : K41 (o + 18) = some (.inr (0, 6)) := by rw [eK41]; exact kS_ne p40_o18 (by omega)
  have p41_o19 : K41 (o + 19) = some (.inr (0, 384)) := by rw [eK41]; exact kS_ne p40_o19 (by omega)
  have p41_o20 : K41 (o + 20) = some (.inr (0, 384)) := by rw [eK41]; exact kS_ne p40_o20 (by omega)
  have p41_o21 : K41 (o + 21) = some (.inr (0, 384)) := by rw [eK41]; exact kS_ne p40_o21 (by omega)
  have p41_o22 : K41 (o + 22) = some (.inr (3, 384)) := by rw [eK41]; exact kS_ne p40_o22 (by omega)
  have p41_o23 : K41 (o + 23) = some (.inr (3, 384)) := by rw [eK41]; exact kS_ne p40_o23 (by omega)
  have p41_o24 : K41 (o + 24) = some (.inr (0, 384)) := by rw [eK41]; exact kS_ne p40_o24 (by omega)
  have p41_o25 : K41 (o + 25) = some (.inr (0, 384)) := by rw [eK41]; exact kS_ne p40_o25 (by omega)
  have p41_o26 : K41 (o + 26) = some (.inr (0, 384)) := by rw [eK41]; exact kS_ne p40_o26 (by omega)
  have p41_o27 : K41 (o + 27) = some (.inr (0, 384)) := by rw [eK41]; exact kS_ne p40_o27 (by omega)
  have p41_o28 : K41 (o + 28) = some (.inr (0, 384)) := by rw [eK41]; exact kS_ne p40_o28 (by omega)
  have p41_o29 : K41 (o + 29) = some (.inr (0, 4096)) := by rw [eK41]; exact kS_ne p40_o29 (by omega)
  have p41_o30 : K41 (o + 30) = some (.inr (0, 4096)) := by rw [eK41]; exact kS_ne p40_o30 (by omega)
  have p41_o31 : K41 (o + 31) = some (.inr (0, 4096)) := by rw [eK41]; exact kS_ne p40_o31 (by omega)
  have p41_o32 : K41 (o + 32) = some (.inr (0, 4096)) := by rw [eK41]; exact kS_ne p40_o32 (by omega)
  have p41_o33 : K41 (o + 33) = some (.inr (0, 4096)) := by rw [eK41]; exact kS_ne p40_o33 (by omega)
  have p41_o34 : K41 (o + 34) = some (.inr (0, 4096)) := by rw [eK41]; exact kS_ne p40_o34 (by omega)
  have p41_o35 : K41 (o + 35) = some (.inr (0, 4096)) := by rw [eK41]; exact kS_ne p40_o35 (by omega)
  have p41_o36 : K41 (o + 36) = some (.inr (0, 4096)) := by rw [eK41]; exact kS_ne p40_o36 (by omega)
  have p41_o37 : K41 (o + 37) = some (.inr (0, 4096)) := by rw [eK41]; exact kS_ne p40_o37 (by omega)
  have p41_o38 : K41 (o + 38) = some (.inr (0, 4096)) := by rw [eK41]; exact kS_ne p40_o38 (by omega)
  have p41_o39 : K41 (o + 39) = some (.inr (0, 4096)) := by rw [eK41]; exact kS_ne p40_o39 (by omega)
  have p41_o40 : K41 (o + 40) = some (.inr (0, 64)) := by rw [eK41]; exact kS_ne q40 (by omega)
  have q41 : K41 (o + 41) = some (.inr (0, 64)) := by rw [eK41]; exact kS_eq
  obtain ⟨h82, eh82⟩ : ∃ q, q = sR h81 o 58 (some (o + 41)) := ⟨_, rfl⟩
  refine i_putF (h' := h82) (ty := .array (.int)) (sz := o + 42) X O (by decide +kernel) fl11_132r.1 (fun C T N h => by cases h; exact ⟨rfl, by decide +kernel⟩) (fun C T N h => by cases h; rfl) rfl rfl p41_o (by rw [fl11_132r.2, eh82]; exact Wr.r (x := some (o + 41))) ?_
  refine g_aload_n (n := 0) (sz := o + 42) X (by decide +kernel) 0 rfl ?_
  refine g_bipush (n := 64) (x := (64 : Int32)) (sz := o + 42) X (by decide +kernel) (by decide) ?_
  refine i_newa (aty := .int) (t := 0) (n := 64) (sz := o + 42) X O (by decide +kernel) (by decide) rfl ac_0 rfl (by decide) (by decide) (by decide) (by decide) (by decide) ?_
  obtain ⟨K42, eK42⟩ : ∃ q, q = kS K41 (o + 42) (.inr (0, 64)) := ⟨_, rfl⟩
  rw [← eK42]
  obtain ⟨h83, eh83⟩ : ∃ q, q = zr h82 (o + 42) := ⟨_, rfl⟩
  rw [← eh83]
  have p42_o : K42 (o) = some (.inl 23) := by rw [eK42]; exact kS_ne p41_o (by omega)
  have p42_o1 : K42 (o + 1) = some (.inr (1, 2400)) := by rw [eK42]; exact kS_ne p41_o1 (by omega)
  have p42_o2 : K42 (o + 2) = some (.inr (0, 4)) := by rw [eK42]; exact kS_ne p41_o2 (by omega)
  have p42_o3 : K42 (o + 3) = some (.inr (0, 4)) := by rw [eK42]; exact kS_ne p41_o3 (by omega)
  have p42_o4 : K42 (o + 4) = some (.inr (0, 4)) := by rw [eK42]; exact kS_ne p41_o4 (by omega)
  have p42_o5 : K42 (o + 5) = some (.inr (0, 12)) := by rw [eK42]; exact kS_ne p41_o5 (by omega)
  have p42_o6 : K42 (o + 6) = some (.inr (0, 976)) := by rw [eK42]; exact kS_ne p41_o6 (by omega)
  have p42_o7 : K42 (o + 7) = some (.inr (0, 968)) := by rw [eK42]; exact kS_ne p41_o7 (by omega)
  have p42_o8 : K42 (o + 8) = some (.inr (0, 136)) := by rw [eK42]; exact kS_ne p41_o8 (by omega)
  have p42_o9 : K42 (o + 9) = some (.inr (0, 122)) := by rw [eK42]; exact kS_ne p41_o9 (by omega)
  have p42_o10 : K42 (o + 10) = some (.inr (0, 4)) := by rw [eK42]; exact kS_ne p41_o10 (by omega)
  have p42_o11 : K42 (o + 11) = some (.inr (0, 36)) := by rw [eK42]; exact kS_ne p41_o11 (by omega)
  have p42_o12 : K42 (o + 12) = some (.inr (3, 6)) := by rw [eK42]; exact kS_ne p41_o12 (by omega)
  have p42_o13 : K42 (o + 13) = some (.inr (0, 36)) := by rw [eK42]; exact kS_ne p41_o13 (by omega)
  have p42_o14 : K42 (o + 14) = some (.inr (0, 6)) := by rw [eK42]; exact kS_ne p41_o14 (by omega)
  have p42_o15 : K42 (o + 15) = some (.inr (0, 36)) := by rw [eK42]; exact kS_ne p41_o15 (by omega)
  have p42_o16 : K42 (o + 16) = some (.inr (0, 36)) := by rw [eK42]; exact kS_ne p41_o16 (by omega)
  have p42_o17 : K42 (o + 17) = some (.inr (0, 36)) := by rw [eK42]; exact kS_ne p41_o17 (by omega)
  have p42_o18 : K42 (o + 18) = some (.inr (0, 6)) := by rw [eK42]; exact kS_ne p41_o18 (by omega)
  have p42_o19 : K42 (o + 19) = some (.inr (0, 384)) := by rw [eK42]; exact kS_ne p41_o19 (by omega)
  have p42_o20 : K42 (o + 20) = some (.inr (0, 384)) := by rw [eK42]; exact kS_ne p41_o20 (by omega)
  have p42_o21 : K42 (o + 21) = some (.inr (0, 384)) := by rw [eK42]; exact kS_ne p41_o21 (by omega)
  have p42_o22 : K42 (o + 22) = some (.inr (3, 384)) := by rw [eK42]; exact kS_ne p41_o22 (by omega)
  have p42_o23 : K42 (o + 23) = some (.inr (3, 384)) := by rw [eK42]; exact kS_ne p41_o23 (by omega)
  have p42_o24 : K42 (o + 24) = some (.inr (0, 384)) := by rw [eK42]; exact kS_ne p41_o24 (by omega)
  have p42_o25 : K42 (o + 25) = some (.inr (0, 384)) := by rw [eK42]; exact kS_ne p41_o25 (by omega)
  have p42_o26 : K42 (o + 26) = some (.inr (0, 384)) := by rw [eK42]; exact kS_ne p41_o26 (by omega)
  have p42_o27 : K42 (o + 27) = some (.inr (0, 384)) := by rw [eK42]; exact kS_ne p41_o27 (by omega)
  have p42_o28 : K42 (o + 28) = some (.inr (0, 384)) := by rw [eK42]; exact kS_ne p41_o28 (by omega)
  have p42_o29 : K42 (o + 29) = some (.inr (0, 4096)) := by rw [eK42]; exact kS_ne p41_o29 (by omega)
  have p42_o30 : K42 (o + 30) = some (.inr (0, 4096)) := by rw [eK42]; exact kS_ne p41_o30 (by omega)
  have p42_o31 : K42 (o + 31) = some (.inr (0, 4096)) := by rw [eK42]; exact kS_ne p41_o31 (by omega)
  have p42_o32 : K42 (o + 32) = some (.inr (0, 4096)) := by rw [eK42]; exact kS_ne p41_o32 (by omega)
  have p42_o33 : K42 (o + 33) = some (.inr (0, 4096)) := by rw [eK42]; exact kS_ne p41_o33 (by omega)
  have p42_o34 : K42 (o + 34) = some (.inr (0, 4096)) := by rw [eK42]; exact kS_ne p41_o34 (by omega)
  have p42_o35 : K42 (o + 35) = some (.inr (0, 4096)) := by rw [eK42]; exact kS_ne p41_o35 (by omega)
  have p42_o36 : K42 (o + 36) = some (.inr (0, 4096)) := by rw [eK42]; exact kS_ne p41_o36 (by omega)
  have p42_o37 : K42 (o + 37) = some (.inr (0, 4096)) := by rw [eK42]; exact kS_ne p41_o37 (by omega)
  have p42_o38 : K42 (o + 38) = some (.inr (0, 4096)) := by rw [eK42]; exact kS_ne p41_o38 (by omega)
  have p42_o39 : K42 (o + 39) = some (.inr (0, 4096)) := by rw [eK42]; exact kS_ne p41_o39 (by omega)
  have p42_o40 : K42 (o + 40) = some (.inr (0, 64)) := by rw [eK42]; exact kS_ne p41_o40 (by omega)
  have p42_o41 : K42 (o + 41) = some (.inr (0, 64)) := by rw [eK42]; exact kS_ne q41 (by omega)
  have q42 : K42 (o + 42) = some (.inr (0, 64)) := by rw [eK42]; exact kS_eq
  obtain ⟨h84, eh84⟩ : ∃ q, q = sR h83 o 59 (some (o + 42)) := ⟨_, rfl⟩
  refine i_putF (h' := h84) (ty := .array (.int)) (sz := o + 43) X O (by decide +kernel) fl11_135r.1 (fun C T N h => by cases h; exact ⟨rfl, by decide +kernel⟩) (fun C T N h => by cases h; rfl) rfl rfl p42_o (by rw [fl11_135r.2, eh84]; exact Wr.r (x := some (o + 42))) ?_
  refine g_aload_n (n := 0) (sz := o + 43) X (by decide +kernel) 0 rfl ?_
  refine g_bipush (n := 64) (x := (64 : Int32)) (sz := o + 43) X (by decide +kernel) (by decide) ?_
  refine i_newa (aty := .int) (t := 0) (n := 64) (sz := o + 43) X O (by decide +kernel) (by decide) rfl ac_0 rfl (by decide) (by decide) (by decide) (by decide) (by decide) ?_
  obtain ⟨K43, eK43⟩ : ∃ q, q = kS K42 (o + 43) (.inr (0, 64)) := ⟨_, rfl⟩
  rw [← eK43]
  obtain ⟨h85, eh85⟩ : ∃ q, q = zr h84 (o + 43) := ⟨_, rfl⟩
  rw [← eh85]
  have p43_o : K43 (o) = some (.inl 23) := by rw [eK43]; exact kS_ne p42_o (by omega)
  have p43_o1 : K43 (o + 1) = some (.inr (1, 2400)) := by rw [eK43]; exact kS_ne p42_o1 (by omega)
  have p43_o2 : K43 (o + 2) = some (.inr (0, 4)) := by rw [eK43]; exact kS_ne p42_o2 (by omega)
  have p43_o3 : K43 (o + 3) = some (.inr (0, 4)) := by rw [eK43]; exact kS_ne p42_o3 (by omega)
  have p43_o4 : K43 (o + 4) = some (.inr (0, 4)) := by rw [eK43]; exact kS_ne p42_o4 (by omega)
  have p43_o5 : K43 (o + 5) = some (.inr (0, 12)) := by rw [eK43]; exact kS_ne p42_o5 (by omega)
  have p43_o6 : K43 (o + 6) = some (.inr (0, 976)) := by rw [eK43]; exact kS_ne p42_o6 (by omega)
  have p43_o7 : K43 (o + 7) = some (.inr (0, 968)) := by rw [eK43]; exact kS_ne p42_o7 (by omega)
  have p43_o8 : K43 (o + 8) = some (.inr (0, 136)) := by rw [eK43]; exact kS_ne p42_o8 (by omega)
  have p43_o9 : K43 (o + 9) = some (.inr (0, 122)) := by rw [eK43]; exact kS_ne p42_o9 (by omega)
  have p43_o10 : K43 (o + 10) = some (.inr (0, 4)) := by rw [eK43]; exact kS_ne p42_o10 (by omega)
  have p43_o11 : K43 (o + 11) = some (.inr (0, 36)) := by rw [eK43]; exact kS_ne p42_o11 (by omega)
  have p43_o12 : K43 (o + 12) = some (.inr (3, 6)) := by rw [eK43]; exact kS_ne p42_o12 (by omega)
  have p43_o13 : K43 (o + 13) = some (.inr (0, 36)) := by rw [eK43]; exact kS_ne p42_o13 (by omega)
  have p43_o14 : K43 (o + 14) = some (.inr (0, 6)) := by rw [eK43]; exact kS_ne p42_o14 (by omega)
  have p43_o15 : K43 (o + 15) = some (.inr (0, 36)) := by rw [eK43]; exact kS_ne p42_o15 (by omega)
  have p43_o16 : K43 (o + 16) = some (.inr (0, 36)) := by rw [eK43]; exact kS_ne p42_o16 (by omega)
  have p43_o17 : K43 (o + 17) = some (.inr (0, 36)) := by rw [eK43]; exact kS_ne p42_o17 (by omega)
  have p43_o18 : K43 (o + 18) = some (.inr (0, 6)) := by rw [eK43]; exact kS_ne p42_o18 (by omega)
  have p43_o19 : K43 (o + 19) = some (.inr (0, 384)) := by rw [eK43]; exact kS_ne p42_o19 (by omega)
  have p43_o20 : K43 (o + 20) = some (.inr (0, 384)) := by rw [eK43]; exact kS_ne p42_o20 (by omega)
  have p43_o21 : K43 (o + 21) = some (.inr (0, 384)) := by rw [eK43]; exact kS_ne p42_o21 (by omega)
  have p43_o22 : K43 (o + 22) = some (.inr (3, 384)) := by rw [eK43]; exact kS_ne p42_o22 (by omega)
  have p43_o23 : K43 (o + 23) = some (.inr (3, 384)) := by rw [eK43]; exact kS_ne p42_o23 (by omega)
  have p43_o24 : K43 (o + 24) = some (.inr (0, 384)) := by rw [eK43]; exact kS_ne p42_o24 (by omega)
  have p43_o25 : K43 (o + 25) = some (.inr (0, 384)) := by rw [eK43]; exact kS_ne p42_o25 (by omega)
  have p43_o26 : K43 (o + 26) = some (.inr (0, 384)) := by rw [eK43]; exact kS_ne p42_o26 (by omega)
  have p43_o27 : K43 (o + 27) = some (.inr (0, 384)) := by rw [eK43]; exact kS_ne p42_o27 (by omega)
  have p43_o28 : K43 (o + 28) = some (.inr (0, 384)) := by rw [eK43]; exact kS_ne p42_o28 (by omega)
  have p43_o29 : K43 (o + 29) = some (.inr (0, 4096)) := by rw [eK43]; exact kS_ne p42_o29 (by omega)
  have p43_o30 : K43 (o + 30) = some (.inr (0, 4096)) := by rw [eK43]; exact kS_ne p42_o30 (by omega)
  have p43_o31 : K43 (o + 31) = some (.inr (0, 4096)) := by rw [eK43]; exact kS_ne p42_o31 (by omega)
  have p43_o32 : K43 (o + 32) = some (.inr (0, 4096)) := by rw [eK43]; exact kS_ne p42_o32 (by omega)
  have p43_o33 : K43 (o + 33) = some (.inr (0, 4096)) := by rw [eK43]; exact kS_ne p42_o33 (by omega)
  have p43_o34 : K43 (o + 34) = some (.inr (0, 4096)) := by rw [eK43]; exact kS_ne p42_o34 (by omega)
  have p43_o35 : K43 (o + 35) = some (.inr (0, 4096)) := by rw [eK43]; exact kS_ne p42_o35 (by omega)
  have p43_o36 : K43 (o + 36) = some (.inr (0, 4096)) := by rw [eK43]; exact kS_ne p42_o36 (by omega)
  have p43_o37 : K43 (o + 37) = some (.inr (0, 4096)) := by rw [eK43]; exact kS_ne p42_o37 (by omega)
  have p43_o38 : K43 (o + 38) = some (.inr (0, 4096)) := by rw [eK43]; exact kS_ne p42_o38 (by omega)
  have p43_o39 : K43 (o + 39) = some (.inr (0, 4096)) := by rw [eK43]; exact kS_ne p42_o39 (by omega)
  have p43_o40 : K43 (o + 40) = some (.inr (0, 64)) := by rw [eK43]; exact kS_ne p42_o40 (by omega)
  have p43_o41 : K43 (o + 41) = some (.inr (0, 64)) := by rw [eK43]; exact kS_ne p42_o41 (by omega)
  have p43_o42 : K43 (o + 42) = some (.inr (0, 64)) := by rw [eK43]; exact kS_ne q42 (by omega)
  have q43 : K43 (o + 43) = some (.inr (0, 64)) := by rw [eK43]; exact kS_eq
  obtain ⟨h86, eh86⟩ : ∃ q, q = sR h85 o 60 (some (o + 43)) := ⟨_, rfl⟩
  refine i_putF (h' := h86) (ty := .array (.int)) (sz := o + 44) X O (by decide +kernel) fl11_138r.1 (fun C T N h => by cases h; exact ⟨rfl, by decide +kernel⟩) (fun C T N h => by cases h; rfl) rfl rfl p43_o (by rw [fl11_138r.2, eh86]; exact Wr.r (x := some (o + 43))) ?_
  refine g_aload_n (n := 0) (sz := o + 44) X (by decide +kernel) 0 rfl ?_
  refine g_bipush (n := 64) (x := (64 : Int32)) (sz := o + 44) X (by decide +kernel) (by decide) ?_
  refine i_newa (aty := .int) (t := 0) (n := 64) (sz := o + 44) X O (by decide +kernel) (by decide) rfl ac_0 rfl (by decide) (by decide) (by decide) (by decide) (by decide) ?_
  obtain ⟨K44, eK44⟩ : ∃ q, q = kS K43 (o + 44) (.inr (0, 64)) := ⟨_, rfl⟩
  rw [← eK44]
  obtain ⟨h87, eh87⟩ : ∃ q, q = zr h86 (o + 44) := ⟨_, rfl⟩
  rw [← eh87]
  have p44_o : K44 (o) = some (.inl 23) := by rw [eK44]; exact kS_ne p43_o (by omega)
  have p44_o1 : K44 (o + 1) = some (.inr (1, 2400)) := by rw [eK44]; exact kS_ne p43_o1 (by omega)
  have p44_o2 : K44 (o + 2) = some (.inr (0, 4)) := by rw [eK44]; exact kS_ne p43_o2 (by omega)
  have p44_o3 : K44 (o + 3) = some (.inr (0, 4)) := by rw [eK44]; exact kS_ne p43_o3 (by omega)
  have p44_o4 : K44 (o + 4) = some (.inr (0, 4)) := by rw [eK44]; exact kS_ne p43_o4 (by omega)
  have p44_o5 : K44 (o + 5) = some (.inr (0, 12)) := by rw [eK44]; exact kS_ne p43_o5 (by omega)
  have p44_o6 : K44 (o + 6) = some (.inr (0, 976)) := by rw [eK44]; exact kS_ne p43_o6 (by omega)
  have p44_o7 : K44 (o + 7) = some (.inr (0, 968)) := by rw [eK44]; exact kS_ne p43_o7 (by omega)
  have p44_o8 : K44 (o + 8) = some (.inr (0, 136)) := by rw [eK44]; exact kS_ne p43_o8 (by omega)
  have p44_o9 : K44 (o + 9) = some (.inr (0, 122)) := by rw [eK44]; exact kS_ne p43_o9 (by omega)
  have p44_o10 : K44 (o + 10) = some (.inr (0, 4)) := by rw [eK44]; exact kS_ne p43_o10 (by omega)
  have p44_o11 : K44 (o + 11) = some (.inr (0, 36)) := by rw [eK44]; exact kS_ne p43_o11 (by omega)
  have p44_o12 : K44 (o + 12) = some (.inr (3, 6)) := by rw [eK44]; exact kS_ne p43_o12 (by omega)
  have p44_o13 : K44 (o + 13) = some (.inr (0, 36)) := by rw [eK44]; exact kS_ne p43_o13 (by omega)
  have p44_o14 : K44 (o + 14) = some (.inr (0, 6)) := by rw [eK44]; exact kS_ne p43_o14 (by omega)
  have p44_o15 : K44 (o + 15) = some (.inr (0, 36)) := by rw [eK44]; exact kS_ne p43_o15 (by omega)
  have p44_o16 : K44 (o + 16) = some (.inr (0, 36)) := by rw [eK44]; exact kS_ne p43_o16 (by omega)
  have p44_o17 : K44 (o + 17) = some (.inr (0, 36)) := by rw [eK44]; exact kS_ne p43_o17 (by omega)
  have p44_o18 : K44 (o + 18) = some (.inr (0, 6)) := by rw [eK44]; exact kS_ne p43_o18 (by omega)
  have p44_o19 : K44 (o + 19) = some (.inr (0, 384)) := by rw [eK44]; exact kS_ne p43_o19 (by omega)
  have p44_o20 : K44 (o + 20) = some (.inr (0, 384)) := by rw [eK44]; exact kS_ne p43_o20 (by omega)
  have p44_o21 : K44 (o + 21) = some (.inr (0, 384)) := by rw [eK44]; exact kS_ne p43_o21 (by omega)
  have p44_o22 : K44 (o + 22) = some (.inr (3, 384)) := by rw [eK44]; exact kS_ne p43_o22 (by omega)
  have p44_o23 : K44 (o + 23) = some (.inr (3, 384)) := by rw [eK44]; exact kS_ne p43_o23 (by omega)
  have p44_o24 : K44 (o + 24) = some (.inr (0, 384)) := by rw [eK44]; exact kS_ne p43_o24 (by omega)
  have p44_o25 : K44 (o + 25) = some (.inr (0, 384)) := by rw [eK44]; exact kS_ne p43_o25 (by omega)
  have p44_o26 : K44 (o + 26) = some (.inr (0, 384)) := by rw [eK44]; exact kS_ne p43_o26 (by omega)
  have p44_o27 : K44 (o + 27) = some (.inr (0, 384)) := by rw [eK44]; exact kS_ne p43_o27 (by omega)
  have p44_o28 : K44 (o + 28) = some (.inr (0, 384)) := by rw [eK44]; exact kS_ne p43_o28 (by omega)
  have p44_o29 : K44 (o + 29) = some (.inr (0, 4096)) := by rw [eK44]; exact kS_ne p43_o29 (by omega)
  have p44_o30 : K44 (o + 30) = some (.inr (0, 4096)) := by rw [eK44]; exact kS_ne p43_o30 (by omega)
  have p44_o31 : K44 (o + 31) = some (.inr (0, 4096)) := by rw [eK44]; exact kS_ne p43_o31 (by omega)
  have p44_o32 : K44 (o + 32) = some (.inr (0, 4096)) := by rw [eK44]; exact kS_ne p43_o32 (by omega)
  have p44_o33 : K44 (o + 33) = some (.inr (0, 4096)) := by rw [eK44]; exact kS_ne p43_o33 (by omega)
  have p44_o34 : K44 (o + 34) = some (.inr (0, 4096)) := by rw [eK44]; exact kS_ne p43_o34 (by omega)
  have p44_o35 : K44 (o + 35) = some (.inr (0, 4096)) := by rw [eK44]; exact kS_ne p43_o35 (by omega)
  have p44_o36 : K44 (o + 36) = some (.inr (0, 4096)) := by rw [eK44]; exact kS_ne p43_o36 (by omega)
  have p44_o37 : K44 (o + 37) = some (.inr (0, 4096)) := by rw [eK44]; exact kS_ne p43_o37 (by omega)
  have p44_o38 : K44 (o + 38) = some (.inr (0, 4096)) := by rw [eK44]; exact kS_ne p43_o38 (by omega)
  have p44_o39 : K44 (o + 39) = some (.inr (0, 4096)) := by rw [eK44]; exact kS_ne p43_o39 (by omega)
  have p44_o40 : K44 (o + 40) = some (.inr (0, 64)) := by rw [eK44]; exact kS_ne p43_o40 (by omega)
  have p44_o41 : K44 (o + 41) = some (.inr (0, 64)) := by rw [eK44]; exact kS_ne p43_o41 (by omega)
  have p44_o42 : K44 (o + 42) = some (.inr (0, 64)) := by rw [eK44]; exact kS_ne p43_o42 (by omega)
  have p44_o43 : K44 (o + 43) = some (.inr (0, 64)) := by rw [eK44]; exact kS_ne q43 (by omega)
  have q44 : K44 (o + 44) = some (.inr (0, 64)) := by rw [eK44]; exact kS_eq
  obtain ⟨h88, eh88⟩ : ∃ q, q = sR h87 o 61 (some (o + 44)) := ⟨_, rfl⟩
  refine i_putF (h' := h88) (ty := .array (.int)) (sz := o + 45) X O (by decide +kernel) fl11_141r.1 (fun C T N h => by cases h; exact ⟨rfl, by decide +kernel⟩) (fun C T N h => by cases h; rfl) rfl rfl p44_o (by rw [fl11_141r.2, eh88]; exact Wr.r (x := some (o + 44))) ?_
  refine g_aload_n (n := 0) (sz := o + 45) X (by decide +kernel) 0 rfl ?_
  refine g_bipush (n := 64) (x := (64 : Int32)) (sz := o + 45) X (by decide +kernel) (by decide) ?_
  refine i_newa (aty := .int) (t := 0) (n := 64) (sz := o + 45) X O (by decide +kernel) (by decide) rfl ac_0 rfl (by decide) (by decide) (by decide) (by decide) (by decide) ?_
  obtain ⟨K45, eK45⟩ : ∃ q, q = kS K44 (o + 45) (.inr (0, 64)) := ⟨_, rfl⟩
  rw [← eK45]
  obtain ⟨h89, eh89⟩ : ∃ q, q = zr h88 (o + 45) := ⟨_, rfl⟩
  rw [← eh89]
  have p45_o : K45 (o) = some (.inl 23) := by rw [eK45]; exact kS_ne p44_o (by omega)
  have p45_o1 : K45 (o + 1) = some (.inr (1, 2400)) := by rw [eK45]; exact kS_ne p44_o1 (by omega)
  have p45_o2 : K45 (o + 2) = some (.inr (0, 4)) := by rw [eK45]; exact kS_ne p44_o2 (by omega)
  have p45_o3 : K45 (o + 3) = some (.inr (0, 4)) := by rw [eK45]; exact kS_ne p44_o3 (by omega)
  have p45_o4 : K45 (o + 4) = some (.inr (0, 4)) := by rw [eK45]; exact kS_ne p44_o4 (by omega)
  have p45_o5 : K45 (o + 5) = some (.inr (0, 12)) := by rw [eK45]; exact kS_ne p44_o5 (by omega)
  have p45_o6 : K45 (o + 6) = some (.inr (0, 976)) := by rw [eK45]; exact kS_ne p44_o6 (by omega)
  have p45_o7 : K45 (o + 7) = some (.inr (0, 968)) := by rw [eK45]; exact kS_ne p44_o7 (by omega)
  have p45_o8 : K45 (o + 8) = some (.inr (0, 136)) := by rw [eK45]; exact kS_ne p44_o8 (by omega)
  have p45_o9 : K45 (o + 9) = some (.inr (0, 122)) := by rw [eK45]; exact kS_ne p44_o9 (by omega)
  have p45_o10 : K45 (o + 10) = some (.inr (0, 4)) := by rw [eK45]; exact kS_ne p44_o10 (by omega)
  have p45_o11 : K45 (o + 11) = some (.inr (0, 36)) := by rw [eK45]; exact kS_ne p44_o11 (by omega)
  have p45_o12 : K45 (o + 12) = some (.inr (3, 6)) := by rw [eK45]; exact kS_ne p44_o12 (by omega)
  have p45_o13 : K45 (o + 13) = some (.inr (0, 36)) := by rw [eK45]; exact kS_ne p44_o13 (by omega)
  have p45_o14 : K45 (o + 14) = some (.inr (0, 6)) := by rw [eK45]; exact kS_ne p44_o14 (by omega)
  have p45_o15 : K45 (o + 15) = some (.inr (0, 36)) := by rw [eK45]; exact kS_ne p44_o15 (by omega)
  have p45_o16 : K45 (o + 16) = some (.inr (0, 36)) := by rw [eK45]; exact kS_ne p44_o16 (by omega)
  have p45_o17 : K45 (o + 17) = some (.inr (0, 36)) := by rw [eK45]; exact kS_ne p44_o17 (by omega)
  have p45_o18 : K45 (o + 18) = some (.inr (0, 6)) := by rw [eK45]; exact kS_ne p44_o18 (by omega)
  have p45_o19 : K45 (o + 19) = some (.inr (0, 384)) := by rw [eK45]; exact kS_ne p44_o19 (by omega)
  have p45_o20 : K45 (o + 20) = some (.inr (0, 384)) := by rw [eK45]; exact kS_ne p44_o20 (by omega)
  have p45_o21 : K45 (o + 21) = some (.inr (0, 384)) := by rw [eK45]; exact kS_ne p44_o21 (by omega)
  have p45_o22 : K45 (o + 22) = some (.inr (3, 384)) := by rw [eK45]; exact kS_ne p44_o22 (by omega)
  have p45_o23 : K45 (o + 23) = some (.inr (3, 384)) := by rw [eK45]; exact kS_ne p44_o23 (by omega)
  have p45_o24 : K45 (o + 24) = some (.inr (0, 384)) := by rw [eK45]; exact kS_ne p44_o24 (by omega)
  have p45_o25 : K45 (o + 25) = some (.inr (0, 384)) := by rw [eK45]; exact kS_ne p44_o25 (by omega)
  have p45_o26 : K45 (o + 26) = some (.inr (0, 384)) := by rw [eK45]; exact kS_ne p44_o26 (by omega)
  have p45_o27 : K45 (o + 27) = some (.inr (0, 384)) := by rw [eK45]; exact kS_ne p44_o27 (by omega)
  have p45_o28 : K45 (o + 28) = some (.inr (0, 384)) := by rw [eK45]; exact kS_ne p44_o28 (by omega)
  have p45_o29 : K45 (o + 29) = some (.inr (0, 4096)) := by rw [eK45]; exact kS_ne p44_o29 (by omega)
  have p45_o30 : K45 (o + 30) = some (.inr (0, 4096)) := by rw [eK45]; exact kS_ne p44_o30 (by omega)
  have p45_o31 : K45 (o + 31) = some (.inr (0, 4096)) := by rw [eK45]; exact kS_ne p44_o31 (by omega)
  have p45_o32 : K45 (o + 32) = some (.inr (0, 4096)) := by rw [eK45]; exact kS_ne p44_o32 (by omega)
  have p45_o33 : K45 (o + 33) = some (.inr (0, 4096)) := by rw [eK45]; exact kS_ne p44_o33 (by omega)
  have p45_o34 : K45 (o + 34) = some (.inr (0, 4096)) := by rw [eK45]; exact kS_ne p44_o34 (by omega)
  have p45_o35 : K45 (o + 35) = some (.inr (0, 4096)) := by rw [eK45]; exact kS_ne p44_o35 (by omega)
  have p45_o36 : K45 (o + 36) = some (.inr (0, 4096)) := by rw [eK45]; exact kS_ne p44_o36 (by omega)
  have p45_o37 : K45 (o + 37) = some (.inr (0, 4096)) := by rw [eK45]; exact kS_ne p44_o37 (by omega)
  have p45_o38 : K45 (o + 38) = some (.inr (0, 4096)) := by rw [eK45]; exact kS_ne p44_o38 (by omega)
  have p45_o39 : K45 (o + 39) = some (.inr (0, 4096)) := by rw [eK45]; exact kS_ne p44_o39 (by omega)
  have p45_o40 : K45 (o + 40) = some (.inr (0, 64)) := by rw [eK45]; exact kS_ne p44_o40 (by omega)
  have p45_o41 : K45 (o + 41) = some (.inr (0, 64)) := by rw [eK45]; exact kS_ne p44_o41 (by omega)
  have p45_o42 : K45 (o + 42) = some (.inr (0, 64)) := by rw [eK45]; exact kS_ne p44_o42 (by omega)
  have p45_o43 : K45 (o + 43) = some (.inr (0, 64)) := by rw [eK45]; exact kS_ne p44_o43 (by omega)
  have p45_o44 : K45 (o + 44) = some (.inr (0, 64)) := by rw [eK45]; exact kS_ne q44 (by omega)
  have q45 : K45 (o + 45) = some (.inr (0, 64)) := by rw [eK45]; exact kS_eq
  obtain ⟨h90, eh90⟩ : ∃ q, q = sR h89 o 62 (some (o + 45)) := ⟨_, rfl⟩
  refine i_putF (h' := h90) (ty := .array (.int)) (sz := o + 46) X O (by decide +kernel) fl11_144r.1 (fun C T N h => by cases h; exact ⟨rfl, by decide +kernel⟩) (fun C T N h => by cases h; rfl) rfl rfl p45_o (by rw [fl11_144r.2, eh90]; exact Wr.r (x := some (o + 45))) ?_
  refine g_aload_n (n := 0) (sz := o + 46) X (by decide +kernel) 0 rfl ?_
  refine g_bipush (n := 64) (x := (64 : Int32)) (sz := o + 46) X (by decide +kernel) (by decide) ?_
  refine i_newa (aty := .int) (t := 0) (n := 64) (sz := o + 46) X O (by decide +kernel) (by decide) rfl ac_0 rfl (by decide) (by decide) (by decide) (by decide) (by decide) ?_
  obtain ⟨K46, eK46⟩ : ∃ q, q = kS K45 (o + 46) (.inr (0, 64)) := ⟨_, rfl⟩
  rw [← eK46]
  obtain ⟨h91, eh91⟩ : ∃ q, q = zr h90 (o + 46) := ⟨_, rfl⟩
  rw [← eh91]
  have p46_o : K46 (o) = some (.inl 23) := by rw [eK46]; exact kS_ne p45_o (by omega)
  have p46_o1 : K46 (o + 1) = some (.inr (1, 2400)) := by rw [eK46]; exact kS_ne p45_o1 (by omega)
  have p46_o2 : K46 (o + 2) = some (.inr (0, 4)) := by rw [eK46]; exact kS_ne p45_o2 (by omega)
  have p46_o3 : K46 (o + 3) = some (.inr (0, 4)) := by rw [eK46]; exact kS_ne p45_o3 (by omega)
  have p46_o4 : K46 (o + 4) = some (.inr (0, 4)) := by rw [eK46]; exact kS_ne p45_o4 (by omega)
  have p46_o5 : K46 (o + 5) = some (.inr (0, 12)) := by rw [eK46]; exact kS_ne p45_o5 (by omega)
  have p46_o6 : K46 (o + 6) = some (.inr (0, 976)) := by rw [eK46]; exact kS_ne p45_o6 (by omega)
  have p46_o7 : K46 (o + 7) = some (.inr (0, 968)) := by rw [eK46]; exact kS_ne p45_o7 (by omega)
  have p46_o8 : K46 (o + 8) = some (.inr (0, 136)) := by rw [eK46]; exact kS_ne p45_o8 (by omega)
  have p46_o9 : K46 (o + 9) = some (.inr (0, 122)) := by rw [eK46]; exact kS_ne p45_o9 (by omega)
  have p46_o10 : K46 (o + 10) = some (.inr (0, 4)) := by rw [eK46]; exact kS_ne p45_o10 (by omega)
  have p46_o11 : K46 (o + 11) = some (.inr (0, 36)) := by rw [eK46]; exact kS_ne p45_o11 (by omega)
  have p46_o12 : K46 (o + 12) = some (.inr (3, 6)) := by rw [eK46]; exact kS_ne p45_o12 (by omega)
  have p46_o13 : K46 (o + 13) = some (.inr (0, 36)) := by rw [eK46]; exact kS_ne p45_o13 (by omega)
  have p46_o14 : K46 (o + 14) = some (.inr (0, 6)) := by rw [eK46]; exact kS_ne p45_o14 (by omega)
  have p46_o15 : K46 (o + 15) = some (.inr (0, 36)) := by rw [eK46]; exact kS_ne p45_o15 (by omega)
  have p46_o16 : K46 (o + 16) = some (.inr (0, 36)) := by rw [eK46]; exact kS_ne p45_o16 (by omega)
  have p46_o17 : K46 (o + 17) = some (.inr (0, 36)) := by rw [eK46]; exact kS_ne p45_o17 (by omega)
  have p46_o18 : K46 (o + 18) = some (.inr (0, 6)) := by rw [eK46]; exact kS_ne p45_o18 (by omega)
  have p46_o19 : K46 (o + 19) = some (.inr (0, 384)) := by rw [eK46]; exact kS_ne p45_o19 (by omega)
  have p46_o20 : K46 (o + 20) = some (.inr (0, 384)) := by rw [eK46]; exact kS_ne p45_o20 (by omega)
  have p46_o21 : K46 (o + 21) = some (.inr (0, 384)) := by rw [eK46]; exact kS_ne p45_o21 (by omega)
  have p46_o22 : K46 (o + 22) = some (.inr (3, 384)) := by rw [eK46]; exact kS_ne p45_o22 (by omega)
  have p46_o23 : K46 (o + 23) = some (.inr (3, 384)) := by rw [eK46]; exact kS_ne p45_o23 (by omega)
  have p46_o24 : K46 (o + 24) = some (.inr (0, 384)) := by rw [eK46]; exact kS_ne p45_o24 (by omega)
  have p46_o25 : K46 (o + 25) = some (.inr (0, 384)) := by rw [eK46]; exact kS_ne p45_o25 (by omega)
  have p46_o26 : K46 (o + 26) = some (.inr (0, 384)) := by rw [eK46]; exact kS_ne p45_o26 (by omega)
  have p46_o27 : K46 (o + 27) = some (.inr (0, 384)) := by rw [eK46]; exact kS_ne p45_o27 (by omega)
  have p46_o28 : K46 (o + 28) = some (.inr (0, 384)) := by rw [eK46]; exact kS_ne p45_o28 (by omega)
  have p46_o29 : K46 (o + 29) = some (.inr (0, 4096)) := by rw [eK46]; exact kS_ne p45_o29 (by omega)
  have p46_o30 : K46 (o + 30) = some (.inr (0, 4096)) := by rw [eK46]; exact kS_ne p45_o30 (by omega)
  have p46_o31 : K46 (o + 31) = some (.inr (0, 4096)) := by rw [eK46]; exact kS_ne p45_o31 (by omega)
  have p46_o32 : K46 (o + 32) = some (.inr (0, 4096)) := by rw [eK46]; exact kS_ne p45_o32 (by omega)
  have p46_o33 : K46 (o + 33) = some (.inr (0, 4096)) := by rw [eK46]; exact kS_ne p45_o33 (by omega)
  have p46_o34 : K46 (o + 34) = some (.inr (0, 4096)) := by rw [eK46]; exact kS_ne p45_o34 (by omega)
  have p46_o35 : K46 (o + 35) = some (.inr (0, 4096)) := by rw [eK46]; exact kS_ne p45_o35 (by omega)
  have p46_o36 : K46 (o + 36) = some (.inr (0, 4096)) := by rw [eK46]; exact kS_ne p45_o36 (by omega)
  have p46_o37 : K46 (o + 37) = some (.inr (0, 4096)) := by rw [eK46]; exact kS_ne p45_o37 (by omega)
  have p46_o38 : K46 (o + 38) = some (.inr (0, 4096)) := by rw [eK46]; exact kS_ne p45_o38 (by omega)
  have p46_o39 : K46 (o + 39) = some (.inr (0, 4096)) := by rw [eK46]; exact kS_ne p45_o39 (by omega)
  have p46_o40 : K46 (o + 40) = some (.inr (0, 64)) := by rw [eK46]; exact kS_ne p45_o40 (by omega)
  have p46_o41 : K46 (o + 41) = some (.inr (0, 64)) := by rw [eK46]; exact kS_ne p45_o41 (by omega)
  have p46_o42 : K46 (o + 42) = some (.inr (0, 64)) := by rw [eK46]; exact kS_ne p45_o42 (by omega)
  have p46_o43 : K46 (o + 43) = some (.inr (0, 64)) := by rw [eK46]; exact kS_ne p45_o43 (by omega)
  have p46_o44 : K46 (o + 44) = some (.inr (0, 64)) := by rw [eK46]; exact kS_ne p45_o44 (by omega)
  have p46_o45 : K46 (o + 45) = some (.inr (0, 64)) := by rw [eK46]; exact kS_ne q45 (by omega)
  have q46 : K46 (o + 46) = some (.inr (0, 64)) := by rw [eK46]; exact kS_eq
  obtain ⟨h92, eh92⟩ : ∃ q, q = sR h91 o 63 (some (o + 46)) := ⟨_, rfl⟩
  refine i_putF (h' := h92) (ty := .array (.int)) (sz := o + 47) X O (by decide +kernel) fl11_147r.1 (fun C T N h => by cases h; exact ⟨rfl, by decide +kernel⟩) (fun C T N h => by cases h; rfl) rfl rfl p46_o (by rw [fl11_147r.2, eh92]; exact Wr.r (x := some (o + 46))) ?_
  refine g_aload_n (n := 0) (sz := o + 47) X (by decide +kernel) 0 rfl ?_
  refine g_bipush (n := 64) (x := (64 : Int32)) (sz := o + 47) X (by decide +kernel) (by decide) ?_
  refine i_newa (aty := .int) (t := 0) (n := 64) (sz := o + 47) X O (by decide +kernel) (by decide) rfl ac_0 rfl (by decide) (by decide) (by decide) (by decide) (by decide) ?_
  obtain ⟨K47, eK47⟩ : ∃ q, q = kS K46 (o + 47) (.inr (0, 64)) := ⟨_, rfl⟩
  rw [← eK47]
  obtain ⟨h93, eh93⟩ : ∃ q, q = zr h92 (o + 47) := ⟨_, rfl⟩
  rw [← eh93]
  have p47_o : K47 (o) = some (.inl 23) := by rw [eK47]; exact kS_ne p46_o (by omega)
  have p47_o1 : K47 (o + 1) = some (.inr (1, 2400)) := by rw [eK47]; exact kS_ne p46_o1 (by omega)
  have p47_o2 : K47 (o + 2) = some (.inr (0, 4)) := by rw [eK47]; exact kS_ne p46_o2 (by omega)
  have p47_o3 : K47 (o + 3) = some (.inr (0, 4)) := by rw [eK47]; exact kS_ne p46_o3 (by omega)
  have p47_o4 : K47 (o + 4) = some (.inr (0, 4)) := by rw [eK47]; exact kS_ne p46_o4 (by omega)
  have p47_o5 : K47 (o + 5) = some (.inr (0, 12)) := by rw [eK47]; exact kS_ne p46_o5 (by omega)
  have p47_o6 : K47 (o + 6) = some (.inr (0, 976)) := by rw [eK47]; exact kS_ne p46_o6 (by omega)
  have p47_o7 : K47 (o + 7) = some (.inr (0, 968)) := by rw [eK47]; exact kS_ne p46_o7 (by omega)
  have p47_o8 : K47 (o + 8) = some (.inr (0, 136)) := by rw [eK47]; exact kS_ne p46_o8 (by omega)
  have p47_o9 : K47 (o + 9) = some (.inr (0, 122)) := by rw [eK47]; exact kS_ne p46_o9 (by omega)
  have p47_o10 : K47 (o + 10) = some (.inr (0, 4)) := by rw [eK47]; exact kS_ne p46_o10 (by omega)
  have p47_o11 : K47 (o + 11) = some (.inr (0, 36)) := by rw [eK47]; exact kS_ne p46_o11 (by omega)
  have p47_o12 : K47 (o + 12) = some (.inr (3, 6)) := by rw [eK47]; exact kS_ne p46_o12 (by omega)
  have p47_o13 : K47 (o + 13) = some (.inr (0, 36)) := by rw [eK47]; exact kS_ne p46_o13 (by omega)
  have p47_o14 : K47 (o + 14) = some (.inr (0, 6)) := by rw [eK47]; exact kS_ne p46_o14 (by omega)
  have p47_o15 : K47 (o + 15) = some (.inr (0, 36)) := by rw [eK47]; exact kS_ne p46_o15 (by omega)
  have p47_o16 : K47 (o + 16) = some (.inr (0, 36)) := by rw [eK47]; exact kS_ne p46_o16 (by omega)
  have p47_o17 : K47 (o + 17) = some (.inr (0, 36)) := by rw [eK47]; exact kS_ne p46_o17 (by omega)
  have p47_o18 : K47 (o + 18) = some (.inr (0, 6)) := by rw [eK47]; exact kS_ne p46_o18 (by omega)
  have p47_o19 : K47 (o + 19) = some (.inr (0, 384)) := by rw [eK47]; exact kS_ne p46_o19 (by omega)
  have p47_o20 : K47 (o + 20) = some (.inr (0, 384)) := by rw [eK47]; exact kS_ne p46_o20 (by omega)
  have p47_o21 : K47 (o + 21) = some (.inr (0, 384)) := by rw [eK47]; exact kS_ne p46_o21 (by omega)
  have p47_o22 : K47 (o + 22) = some (.inr (3, 384)) := by rw [eK47]; exact kS_ne p46_o22 (by omega)
  have p47_o23 : K47 (o + 23) = some (.inr (3, 384)) := by rw [eK47]; exact kS_ne p46_o23 (by omega)
  have p47_o24 : K47 (o + 24) = some (.inr (0, 384)) := by rw [eK47]; exact kS_ne p46_o24 (by omega)
  have p47_o25 : K47 (o + 25) = some (.inr (0, 384)) := by rw [eK47]; exact kS_ne p46_o25 (by omega)
  have p47_o26 : K47 (o + 26) = some (.inr (0, 384)) := by rw [eK47]; exact kS_ne p46_o26 (by omega)
  have p47_o27 : K47 (o + 27) = some (.inr (0, 384)) := by rw [eK47]; exact kS_ne p46_o27 (by omega)
  have p47_o28 : K47 (o + 28) = some (.inr (0, 384)) := by rw [eK47]; exact kS_ne p46_o28 (by omega)
  have p47_o29 : K47 (o + 29) = some (.inr (0, 4096)) := by rw [eK47]; exact kS_ne p46_o29 (by omega)
  have p47_o30 : K47 (o + 30) = some (.inr (0, 4096)) := by rw [eK47]; exact kS_ne p46_o30 (by omega)
  have p47_o31 : K47 (o + 31) = some (.inr (0, 4096)) := by rw [eK47]; exact kS_ne p46_o31 (by omega)
  have p47_o32 : K47 (o + 32) = some (.inr (0, 4096)) := by rw [eK47]; exact kS_ne p46_o32 (by omega)
  have p47_o33 : K47 (o + 33) = some (.inr (0, 4096)) := by rw [eK47]; exact kS_ne p46_o33 (by omega)
  have p47_o34 : K47 (o + 34) = some (.inr (0, 4096)) := by rw [eK47]; exact kS_ne p46_o34 (by omega)
  have p47_o35 : K47 (o + 35) = some (.inr (0, 4096)) := by rw [eK47]; exact kS_ne p46_o35 (by omega)
  have p47_o36 : K47 (o + 36) = some (.inr (0, 4096)) := by rw [eK47]; exact kS_ne p46_o36 (by omega)
  have p47_o37 : K47 (o + 37) = some (.inr (0, 4096)) := by rw [eK47]; exact kS_ne p46_o37 (by omega)
  have p47_o38 : K47 (o + 38) = some (.inr (0, 4096)) := by rw [eK47]; exact kS_ne p46_o38 (by omega)
  have p47_o39 : K47 (o + 39) = some (.inr (0, 4096)) := by rw [eK47]; exact kS_ne p46_o39 (by omega)
  have p47_o40 : K47 (o + 40) = some (.inr (0, 64)) := by rw [eK47]; exact kS_ne p46_o40 (by omega)
  have p47_o41 : K47 (o + 41) = some (.inr (0, 64)) := by rw [eK47]; exact kS_ne p46_o41 (by omega)
  have p47_o42 : K47 (o + 42) = some (.inr (0, 64)) := by rw [eK47]; exact kS_ne p46_o42 (by omega)
  have p47_o43 : K47 (o + 43) = some (.inr (0, 64)) := by rw [eK47]; exact kS_ne p46_o43 (by omega)
  have p47_o44 : K47 (o + 44) = some (.inr (0, 64)) := by rw [eK47]; exact kS_ne p46_o44 (by omega)
  have p47_o45 : K47 (o + 45) = some (.inr (0, 64)) := by rw [eK47]; exact kS_ne p46_o45 (by omega)
  have p47_o46 : K47 (o + 46) = some (.inr (0, 64)) := by rw [eK47]; exact kS_ne q46 (by omega)
  have q47 : K47 (o + 47) = some (.inr (0, 64)) := by rw [eK47]; exact kS_eq
  obtain ⟨h94, eh94⟩ : ∃ q, q = sR h93 o 64 (some (o + 47)) := ⟨_, rfl⟩
  refine i_putF (h' := h94) (ty := .array (.int)) (sz := o + 48) X O (by decide +kernel) fl11_150r.1 (fun C T N h => by cases h; exact ⟨rfl, by decide +kernel⟩) (fun C T N h => by cases h; rfl) rfl rfl p47_o (by rw [fl11_150r.2, eh94]; exact Wr.r (x := some (o + 47))) ?_
  refine g_aload_n (n := 0) (sz := o + 48) X (by decide +kernel) 0 rfl ?_
  refine g_bipush (n := 48) (x := (48 : Int32)) (sz := o + 48) X (by decide +kernel) (by decide) ?_
  refine i_newa (aty := .int) (t := 0) (n := 48) (sz := o + 48) X O (by decide +kernel) (by decide) rfl ac_0 rfl (by decide) (by decide) (by decide) (by decide) (by decide) ?_
  obtain ⟨K48, eK48⟩ : ∃ q, q = kS K47 (o + 48) (.inr (0, 48)) := ⟨_, rfl⟩
  rw [← eK48]
  obtain ⟨h95, eh95⟩ : ∃ q, q = zr h94 (o + 48) := ⟨_, rfl⟩
  rw [← eh95]
  have p48_o : K48 (o) = some (.inl 23) := by rw [eK48]; exact kS_ne p47_o (by omega)
  have p48_o1 : K48 (o + 1) = some (.inr (1, 2400)) := by rw [eK48]; exact kS_ne p47_o1 (by omega)
  have p48_o2 : K48 (o + 2) = some (.inr (0, 4)) := by rw [eK48]; exact kS_ne p47_o2 (by omega)
  have p48_o3 : K48 (o + 3) = some (.inr (0, 4)) := by rw [eK48]; exact kS_ne p47_o3 (by omega)
  have p48_o4 : K48 (o + 4) = some (.inr (0, 4)) := by rw [eK48]; exact kS_ne p47_o4 (by omega)
  have p48_o5 : K48 (o + 5) = some (.inr (0, 12)) := by rw [eK48]; exact kS_ne p47_o5 (by omega)
  have p48_o6 : K48 (o + 6) = some (.inr (0, 976)) := by rw [eK48]; exact kS_ne p47_o6 (by omega)
  have p48_o7 : K48 (o + 7) = some (.inr (0, 968)) := by rw [eK48]; exact kS_ne p47_o7 (by omega)
  have p48_o8 : K48 (o + 8) = some (.inr (0, 136)) := by rw [eK48]; exact kS_ne p47_o8 (by omega)
  have p48_o9 : K48 (o + 9) = some (.inr (0, 122)) := by rw [eK48]; exact kS_ne p47_o9 (by omega)
  have p48_o10 : K48 (o + 10) = some (.inr (0, 4)) := by rw [eK48]; exact kS_ne p47_o10 (by omega)
  have p48_o11 : K48 (o + 11) = some (.inr (0, 36)) := by rw [eK48]; exact kS_ne p47_o11 (by omega)
  have p48_o12 : K48 (o + 12) = some (.inr (3, 6)) := by rw [eK48]; exact kS_ne p47_o12 (by omega)
  have p48_o13 : K48 (o + 13) = some (.inr (0, 36)) := by rw [eK48]; exact kS_ne p47_o13 (by omega)
  have p48_o14 : K48 (o + 14) = some (.inr (0, 6)) := by rw [eK48]; exact kS_ne p47_o14 (by omega)
  have p48_o15 : K48 (o + 15) = some (.inr (0, 36)) := by rw [eK48]; exact kS_ne p47_o15 (by omega)
  have p48_o16 : K48 (o + 16) = some (.inr (0, 36)) := by rw [eK48]; exact kS_ne p47_o16 (by omega)
  have p48_o17 : K48 (o + 17) = some (.inr (0, 36)) := by rw [eK48]; exact kS_ne p47_o17 (by omega)
  have p48_o18 : K48 (o + 18) = some (.inr (0, 6)) := by rw [eK48]; exact kS_ne p47_o18 (by omega)
  have p48_o19 : K48 (o + 19) = some (.inr (0, 384)) := by rw [eK48]; exact kS_ne p47_o19 (by omega)
  have p48_o20 : K48 (o + 20) = some (.inr (0, 384)) := by rw [eK48]; exact kS_ne p47_o20 (by omega)
  have p48_o21 : K48 (o + 21) = some (.inr (0, 384)) := by rw [eK48]; exact kS_ne p47_o21 (by omega)
  have p48_o22 : K48 (o + 22) = some (.inr (3, 384)) := by rw [eK48]; exact kS_ne p47_o22 (by omega)
  have p48_o23 : K48 (o + 23) = some (.inr (3, 384)) := by rw [eK48]; exact kS_ne p47_o23 (by omega)
  have p48_o24 : K48 (o + 24) = some (.inr (0, 384)) := by rw [eK48]; exact kS_ne p47_o24 (by omega)
  have p48_o25 : K48 (o + 25) = some (.inr (0, 384)) := by rw [eK48]; exact kS_ne p47_o25 (by omega)
  have p48_o26 : K48 (o + 26) = some (.inr (0, 384)) := by rw [eK48]; exact kS_ne p47_o26 (by omega)
  have p48_o27 : K48 (o + 27) = some (.inr (0, 384)) := by rw [eK48]; exact kS_ne p47_o27 (by omega)
  have p48_o28 : K48 (o + 28) = some (.inr (0, 384)) := by rw [eK48]; exact kS_ne p47_o28 (by omega)
  have p48_o29 : K48 (o + 29) = some (.inr (0, 4096)) := by rw [eK48]; exact kS_ne p47_o29 (by omega)
  have p48_o30 : K48 (o + 30) = some (.inr (0, 4096)) := by rw [eK48]; exact kS_ne p47_o30 (by omega)
  have p48_o31 : K48 (o + 31) = some (.inr (0, 4096)) := by rw [eK48]; exact kS_ne p47_o31 (by omega)
  have p48_o32 : K48 (o + 32) = some (.inr (0, 4096)) := by rw [eK48]; exact kS_ne p47_o32 (by omega)
  have p48_o33 : K48 (o + 33) = some (.inr (0, 4096)) := by rw [eK48]; exact kS_ne p47_o33 (by omega)
  have p48_o34 : K48 (o + 34) = some (.inr (0, 4096)) := by rw [eK48]; exact kS_ne p47_o34 (by omega)
  have p48_o35 : K48 (o + 35) = some (.inr (0, 4096)) := by rw [eK48]; exact kS_ne p47_o35 (by omega)
  have p48_o36 : K48 (o + 36) = some (.inr (0, 4096)) := by rw [eK48]; exact kS_ne p47_o36 (by omega)
  have p48_o37 : K48 (o + 37) = some (.inr (0, 4096)) := by rw [eK48]; exact kS_ne p47_o37 (by omega)
  have p48_o38 : K48 (o + 38) = some (.inr (0, 4096)) := by rw [eK48]; exact kS_ne p47_o38 (by omega)
  have p48_o39 : K48 (o + 39) = some (.inr (0, 4096)) := by rw [eK48]; exact kS_ne p47_o39 (by omega)
  have p48_o40 : K48 (o + 40) = some (.inr (0, 64)) := by rw [eK48]; exact kS_ne p47_o40 (by omega)
  have p48_o41 : K48 (o + 41) = some (.inr (0, 64)) := by rw [eK48]; exact kS_ne p47_o41 (by omega)
  have p48_o42 : K48 (o + 42) = some (.inr (0, 64)) := by rw [eK48]; exact kS_ne p47_o42 (by omega)
  have p48_o43 : K48 (o + 43) = some (.inr (0, 64)) := by rw [eK48]; exact kS_ne p47_o43 (by omega)
  have p48_o44 : K48 (o + 44) = some (.inr (0, 64)) := by rw [eK48]; exact kS_ne p47_o44 (by omega)
  have p48_o45 : K48 (o + 45) = some (.inr (0, 64)) := by rw [eK48]; exact kS_ne p47_o45 (by omega)
  have p48_o46 : K48 (o + 46) = some (.inr (0, 64)) := by rw [eK48]; exact kS_ne p47_o46 (by omega)
  have p48_o47 : K48 (o + 47) = some (.inr (0, 64)) := by rw [eK48]; exact kS_ne q47 (by omega)
  have q48 : K48 (o + 48) = some (.inr (0, 48)) := by rw [eK48]; exact kS_eq
  obtain ⟨h96, eh96⟩ : ∃ q, q = sR h95 o 77 (some (o + 48)) := ⟨_, rfl⟩
  refine i_putF (h' := h96) (ty := .array (.int)) (sz := o + 49) X O (by decide +kernel) fl11_153r.1 (fun C T N h => by cases h; exact ⟨rfl, by decide +kernel⟩) (fun C T N h => by cases h; rfl) rfl rfl p48_o (by rw [fl11_153r.2, eh96]; exact Wr.r (x := some (o + 48))) ?_
  refine g_aload_n (n := 0) (sz := o + 49) X (by decide +kernel) 0 rfl ?_
  refine g_bipush (n := 8) (x := (8 : Int32)) (sz := o + 49) X (by decide +kernel) (by decide) ?_
  refine i_newa (aty := .int) (t := 0) (n := 8) (sz := o + 49) X O (by decide +kernel) (by decide) rfl ac_0 rfl (by decide) (by decide) (by decide) (by decide) (by decide) ?_
  obtain ⟨K49, eK49⟩ : ∃ q, q = kS K48 (o + 49) (.inr (0, 8)) := ⟨_, rfl⟩
  rw [← eK49]
  obtain ⟨h97, eh97⟩ : ∃ q, q = zr h96 (o + 49) := ⟨_, rfl⟩
  rw [← eh97]
  have p49_o : K49 (o) = some (.inl 23) := by rw [eK49]; exact kS_ne p48_o (by omega)
  have p49_o1 : K49 (o + 1) = some (.inr (1, 2400)) := by rw [eK49]; exact kS_ne p48_o1 (by omega)
  have p49_o2 : K49 (o + 2) = some (.inr (0, 4)) := by rw [eK49]; exact kS_ne p48_o2 (by omega)
  have p49_o3 : K49 (o + 3) = some (.inr (0, 4)) := by rw [eK49]; exact kS_ne p48_o3 (by omega)
  have p49_o4 : K49 (o + 4) = some (.inr (0, 4)) := by rw [eK49]; exact kS_ne p48_o4 (by omega)
  have p49_o5 : K49 (o + 5) = some (.inr (0, 12)) := by rw [eK49]; exact kS_ne p48_o5 (by omega)
  have p49_o6 : K49 (o + 6) = some (.inr (0, 976)) := by rw [eK49]; exact kS_ne p48_o6 (by omega)
  have p49_o7 : K49 (o + 7) = some (.inr (0, 968)) := by rw [eK49]; exact kS_ne p48_o7 (by omega)
  have p49_o8 : K49 (o + 8) = some (.inr (0, 136)) := by rw [eK49]; exact kS_ne p48_o8 (by omega)
  have p49_o9 : K49 (o + 9) = some (.inr (0, 122)) := by rw [eK49]; exact kS_ne p48_o9 (by omega)
  have p49_o10 : K49 (o + 10) = some (.inr (0, 4)) := by rw [eK49]; exact kS_ne p48_o10 (by omega)
  have p49_o11 : K49 (o + 11) = some (.inr (0, 36)) := by rw [eK49]; exact kS_ne p48_o11 (by omega)
  have p49_o12 : K49 (o + 12) = some (.inr (3, 6)) := by rw [eK49]; exact kS_ne p48_o12 (by omega)
  have p49_o13 : K49 (o + 13) = some (.inr (0, 36)) := by rw [eK49]; exact kS_ne p48_o13 (by omega)
  have p49_o14 : K49 (o + 14) = some (.inr (0, 6)) := by rw [eK49]; exact kS_ne p48_o14 (by omega)
  have p49_o15 : K49 (o + 15) = some (.inr (0, 36)) := by rw [eK49]; exact kS_ne p48_o15 (by omega)
  have p49_o16 : K49 (o + 16) = some (.inr (0, 36)) := by rw [eK49]; exact kS_ne p48_o16 (by omega)
  have p49_o17 : K49 (o + 17) = some (.inr (0, 36)) := by rw [eK49]; exact kS_ne p48_o17 (by omega)
  have p49_o18 : K49 (o + 18) = some (.inr (0, 6)) := by rw [eK49]; exact kS_ne p48_o18 (by omega)
  have p49_o19 : K49 (o + 19) = some (.inr (0, 384)) := by rw [eK49]; exact kS_ne p48_o19 (by omega)
  have p49_o20 : K49 (o + 20) = some (.inr (0, 384)) := by rw [eK49]; exact kS_ne p48_o20 (by omega)
  have p49_o21 : K49 (o + 21) = some (.inr (0, 384)) := by rw [eK49]; exact kS_ne p48_o21 (by omega)
  have p49_o22 : K49 (o + 22) = some (.inr (3, 384)) := by rw [eK49]; exact kS_ne p48_o22 (by omega)
  have p49_o23 : K49 (o + 23) = some (.inr (3, 384)) := by rw [eK49]; exact kS_ne p48_o23 (by omega)
  have p49_o24 : K49 (o + 24) = some (.inr (0, 384)) := by rw [eK49]; exact kS_ne p48_o24 (by omega)
  have p49_o25 : K49 (o + 25) = some (.inr (0, 384)) := by rw [eK49]; exact kS_ne p48_o25 (by omega)
  have p49_o26 : K49 (o + 26) = some (.inr (0, 384)) := by rw [eK49]; exact kS_ne p48_o26 (by omega)
  have p49_o27 : K49 (o + 27) = some (.inr (0, 384)) := by rw [eK49]; exact kS_ne p48_o27 (by omega)
  have p49_o28 : K49 (o + 28) = some (.inr (0, 384)) := by rw [eK49]; exact kS_ne p48_o28 (by omega)
  have p49_o29 : K49 (o + 29) = some (.inr (0, 4096)) := by rw [eK49]; exact kS_ne p48_o29 (by omega)
  have p49_o30 : K49 (o + 30) = some (.inr (0, 4096)) := by rw [eK49]; exact kS_ne p48_o30 (by omega)
  have p49_o31 : K49 (o + 31) = some (.inr (0, 4096)) := by rw [eK49]; exact kS_ne p48_o31 (by omega)
  have p49_o32 : K49 (o + 32) = some (.inr (0, 4096)) := by rw [eK49]; exact kS_ne p48_o32 (by omega)
  have p49_o33 : K49 (o + 33) = some (.inr (0, 4096)) := by rw [eK49]; exact kS_ne p48_o33 (by omega)
  have p49_o34 : K49 (o + 34) = some (.inr (0, 4096)) := by rw [eK49]; exact kS_ne p48_o34 (by omega)
  have p49_o35 : K49 (o + 35) = some (.inr (0, 4096)) := by rw [eK49]; exact kS_ne p48_o35 (by omega)
  have p49_o36 : K49 (o + 36) = some (.inr (0, 4096)) := by rw [eK49]; exact kS_ne p48_o36 (by omega)
  have p49_o37 : K49 (o + 37) = some (.inr (0, 4096)) := by rw [eK49]; exact kS_ne p48_o37 (by omega)
  have p49_o38 : K49 (o + 38) = some (.inr (0, 4096)) := by rw [eK49]; exact kS_ne p48_o38 (by omega)
  have p49_o39 : K49 (o + 39) = some (.inr (0, 4096)) := by rw [eK49]; exact kS_ne p48_o39 (by omega)
  have p49_o40 : K49 (o + 40) = some (.inr (0, 64)) := by rw [eK49]; exact kS_ne p48_o40 (by omega)
  have p49_o41 : K49 (o + 41) = some (.inr (0, 64)) := by rw [eK49]; exact kS_ne p48_o41 (by omega)
  have p49_o42 : K49 (o + 42) = some (.inr (0, 64)) := by rw [eK49]; exact kS_ne p48_o42 (by omega)
  have p49_o43 : K49 (o + 43) = some (.inr (0, 64)) := by rw [eK49]; exact kS_ne p48_o43 (by omega)
  have p49_o44 : K49 (o + 44) = some (.inr (0, 64)) := by rw [eK49]; exact kS_ne p48_o44 (by omega)
  have p49_o45 : K49 (o + 45) = some (.inr (0, 64)) := by rw [eK49]; exact kS_ne p48_o45 (by omega)
  have p49_o46 : K49 (o + 46) = some (.inr (0, 64)) := by rw [eK49]; exact kS_ne p48_o46 (by omega)
  have p49_o47 : K49 (o + 47) = some (.inr (0, 64)) := by rw [eK49]; exact kS_ne p48_o47 (by omega)
  have p49_o48 : K49 (o + 48) = some (.inr (0, 48)) := by rw [eK49]; exact kS_ne q48 (by omega)
  have q49 : K49 (o + 49) = some (.inr (0, 8)) := by rw [eK49]; exact kS_eq
  obtain ⟨h98, eh98⟩ : ∃ q, q = sR h97 o 78 (some (o + 49)) := ⟨_, rfl⟩
  refine i_putF (h' := h98) (ty := .array (.int)) (sz := o + 50) X O (by decide +kernel) fl11_156r.1 (fun C T N h => by cases h; exact ⟨rfl, by decide +kernel⟩) (fun C T N h => by cases h; rfl) rfl rfl p49_o (by rw [fl11_156r.2, eh98]; exact Wr.r (x := some (o + 49))) ?_
  refine g_aload_n (n := 0) (sz := o + 50) X (by decide +kernel) 0 rfl ?_
  refine g_bipush (n := 36) (x := (36 : Int32)) (sz := o + 50) X (by decide +kernel) (by decide) ?_
  refine i_newa (aty := .int) (t := 0) (n := 36) (sz := o + 50) X O (by decide +kernel) (by decide) rfl ac_0 rfl (by decide) (by decide) (by decide) (by decide) (by decide) ?_
  obtain ⟨K50, eK50⟩ : ∃ q, q = kS K49 (o + 50) (.inr (0, 36)) := ⟨_, rfl⟩
  rw [← eK50]
  obtain ⟨h99, eh99⟩ : ∃ q, q = zr h98 (o + 50) := ⟨_, rfl⟩
  rw [← eh99]
  have p50_o : K50 (o) = some (.inl 23) := by rw [eK50]; exact kS_ne p49_o (by omega)
  have p50_o1 : K50 (o + 1) = some (.inr (1, 2400)) := by rw [eK50]; exact kS_ne p49_o1 (by omega)
  have p50_o2 : K50 (o + 2) = some (.inr (0, 4)) := by rw [eK50]; exact kS_ne p49_o2 (by omega)
  have p50_o3 : K50 (o + 3) = some (.inr (0, 4)) := by rw [eK50]; exact kS_ne p49_o3 (by omega)
  have p50_o4 : K50 (o + 4) = some (.inr (0, 4)) := by rw [eK50]; exact kS_ne p49_o4 (by omega)
  have p50_o5 : K50 (o + 5) = some (.inr (0, 12)) := by rw [eK50]; exact kS_ne p49_o5 (by omega)
  have p50_o6 : K50 (o + 6) = some (.inr (0, 976)) := by rw [eK50]; exact kS_ne p49_o6 (by omega)
  have p50_o7 : K50 (o + 7) = some (.inr (0, 968)) := by rw [eK50]; exact kS_ne p49_o7 (by omega)
  have p50_o8 : K50 (o + 8) = some (.inr (0, 136)) := by rw [eK50]; exact kS_ne p49_o8 (by omega)
  have p50_o9 : K50 (o + 9) = some (.inr (0, 122)) := by rw [eK50]; exact kS_ne p49_o9 (by omega)
  have p50_o10 : K50 (o + 10) = some (.inr (0, 4)) := by rw [eK50]; exact kS_ne p49_o10 (by omega)
  have p50_o11 : K50 (o + 11) = some (.inr (0, 36)) := by rw [eK50]; exact kS_ne p49_o11 (by omega)
  have p50_o12 : K50 (o + 12) = some (.inr (3, 6)) := by rw [eK50]; exact kS_ne p49_o12 (by omega)
  have p50_o13 : K50 (o + 13) = some (.inr (0, 36)) := by rw [eK50]; exact kS_ne p49_o13 (by omega)
  have p50_o14 : K50 (o + 14) = some (.inr (0, 6)) := by rw [eK50]; exact kS_ne p49_o14 (by omega)
  have p50_o15 : K50 (o + 15) = some (.inr (0, 36)) := by rw [eK50]; exact kS_ne p49_o15 (by omega)
  have p50_o16 : K50 (o + 16) = some (.inr (0, 36)) := by rw [eK50]; exact kS_ne p49_o16 (by omega)
  have p50_o17 : K50 (o + 17) = some (.inr (0, 36)) := by rw [eK50]; exact kS_ne p49_o17 (by omega)
  have p50_o18 : K50 (o + 18) = some (.inr (0, 6)) := by rw [eK50]; exact kS_ne p49_o18 (by omega)
  have p50_o19 : K50 (o + 19) = some (.inr (0, 384)) := by rw [eK50]; exact kS_ne p49_o19 (by omega)
  have p50_o20 : K50 (o + 20) = some (.inr (0, 384)) := by rw [eK50]; exact kS_ne p49_o20 (by omega)
  have p50_o21 : K50 (o + 21) = some (.inr (0, 384)) := by rw [eK50]; exact kS_ne p49_o21 (by omega)
  have p50_o22 : K50 (o + 22) = some (.inr (3, 384)) := by rw [eK50]; exact kS_ne p49_o22 (by omega)
  have p50_o23 : K50 (o + 23) = some (.inr (3, 384)) := by rw [eK50]; exact kS_ne p49_o23 (by omega)
  have p50_o24 : K50 (o + 24) = some (.inr (0, 384)) := by rw [eK50]; exact kS_ne p49_o24 (by omega)
  have p50_o25 : K50 (o + 25) = some (.inr (0, 384)) := by rw [eK50]; exact kS_ne p49_o25 (by omega)
  have p50_o26 : K50 (o + 26) = some (.inr (0, 384)) := by rw [eK50]; exact kS_ne p49_o26 (by omega)
  have p50_o27 : K50 (o + 27) = some (.inr (0, 384)) := by rw [eK50]; exact kS_ne p49_o27 (by omega)
  have p50_o28 : K50 (o + 28) = some (.inr (0, 384)) := by rw [eK50]; exact kS_ne p49_o28 (by omega)
  have p50_o29 : K50 (o + 29) = some (.inr (0, 4096)) := by rw [eK50]; exact kS_ne p49_o29 (by omega)
  have p50_o30 : K50 (o + 30) = some (.inr (0, 4096)) := by rw [eK50]; exact kS_ne p49_o30 (by omega)
  have p50_o31 : K50 (o + 31) = some (.inr (0, 4096)) := by rw [eK50]; exact kS_ne p49_o31 (by omega)
  have p50_o32 : K50 (o + 32) = some (.inr (0, 4096)) := by rw [eK50]; exact kS_ne p49_o32 (by omega)
  have p50_o33 : K50 (o + 33) = some (.inr (0, 4096)) := by rw [eK50]; exact kS_ne p49_o33 (by omega)
  have p50_o34 : K50 (o + 34) = some (.inr (0, 4096)) := by rw [eK50]; exact kS_ne p49_o34 (by omega)
  have p50_o35 : K50 (o + 35) = some (.inr (0, 4096)) := by rw [eK50]; exact kS_ne p49_o35 (by omega)
  have p50_o36 : K50 (o + 36) = some (.inr (0, 4096)) := by rw [eK50]; exact kS_ne p49_o36 (by omega)
  have p50_o37 : K50 (o + 37) = some (.inr (0, 4096)) := by rw [eK50]; exact kS_ne p49_o37 (by omega)
  have p50_o38 : K50 (o + 38) = some (.inr (0, 4096)) := by rw [eK50]; exact kS_ne p49_o38 (by omega)
  have p50_o39 : K50 (o + 39) = some (.inr (0, 4096)) := by rw [eK50]; exact kS_ne p49_o39 (by omega)
  have p50_o40 : K50 (o + 40) = some (.inr (0, 64)) := by rw [eK50]; exact kS_ne p49_o40 (by omega)
  have p50_o41 : K50 (o + 41) = some (.inr (0, 64)) := by rw [eK50]; exact kS_ne p49_o41 (by omega)
  have p50_o42 : K50 (o + 42) = some (.inr (0, 64)) := by rw [eK50]; exact kS_ne p49_o42 (by omega)
  have p50_o43 : K50 (o + 43) = some (.inr (0, 64)) := by rw [eK50]; exact kS_ne p49_o43 (by omega)
  have p50_o44 : K50 (o + 44) = some (.inr (0, 64)) := by rw [eK50]; exact kS_ne p49_o44 (by omega)
  have p50_o45 : K50 (o + 45) = some (.inr (0, 64)) := by rw [eK50]; exact kS_ne p49_o45 (by omega)
  have p50_o46 : K50 (o + 46) = some (.inr (0, 64)) := by rw [eK50]; exact kS_ne p49_o46 (by omega)
  have p50_o47 : K50 (o + 47) = some (.inr (0, 64)) := by rw [eK50]; exact kS_ne p49_o47 (by omega)
  have p50_o48 : K50 (o + 48) = some (.inr (0, 48)) := by rw [eK50]; exact kS_ne p49_o48 (by omega)
  have p50_o49 : K50 (o + 49) = some (.inr (0, 8)) := by rw [eK50]; exact kS_ne q49 (by omega)
  have q50 : K50 (o + 50) = some (.inr (0, 36)) := by rw [eK50]; exact kS_eq
  obtain ⟨h100, eh100⟩ : ∃ q, q = sR h99 o 80 (some (o + 50)) := ⟨_, rfl⟩
  refine i_putF (h' := h100) (ty := .array (.int)) (sz := o + 51) X O (by decide +kernel) fl11_159r.1 (fun C T N h => by cases h; exact ⟨rfl, by decide +kernel⟩) (fun C T N h => by cases h; rfl) rfl rfl p50_o (by rw [fl11_159r.2, eh100]; exact Wr.r (x := some (o + 50))) ?_
  refine g_aload_n (n := 0) (sz := o + 51) X (by decide +kernel) 0 rfl ?_
  refine g_bipush (n := 40) (x := (40 : Int32)) (sz := o + 51) X (by decide +kernel) (by decide) ?_
  refine i_newa (aty := .int) (t := 0) (n := 40) (sz := o + 51) X O (by decide +kernel) (by decide) rfl ac_0 rfl (by decide) (by decide) (by decide) (by decide) (by decide) ?_
  obtain ⟨K51, eK51⟩ : ∃ q, q = kS K50 (o + 51) (.inr (0, 40)) := ⟨_, rfl⟩
  rw [← eK51]
  obtain ⟨h101, eh101⟩ : ∃ q, q = zr h100 (o + 51) := ⟨_, rfl⟩
  rw [← eh101]
  have p51_o : K51 (o) = some (.inl 23) := by rw [eK51]; exact kS_ne p50_o (by omega)
  have p51_o1 : K51 (o + 1) = some (.inr (1, 2400)) := by rw [eK51]; exact kS_ne p50_o1 (by omega)
  have p51_o2 : K51 (o + 2) = some (.inr (0, 4)) := by rw [eK51]; exact kS_ne p50_o2 (by omega)
  have p51_o3 : K51 (o + 3) = some (.inr (0, 4)) := by rw [eK51]; exact kS_ne p50_o3 (by omega)
  have p51_o4 : K51 (o + 4) = some (.inr (0, 4)) := by rw [eK51]; exact kS_ne p50_o4 (by omega)
  have p51_o5 : K51 (o + 5) = some (.inr (0, 12)) := by rw [eK51]; exact kS_ne p50_o5 (by omega)
  have p51_o6 : K51 (o + 6) = some (.inr (0, 976)) := by rw [eK51]; exact kS_ne p50_o6 (by omega)
  have p51_o7 : K51 (o + 7) = some (.inr (0, 968)) := by rw [eK51]; exact kS_ne p50_o7 (by omega)
  have p51_o8 : K51 (o + 8) = some (.inr (0, 136)) := by rw [eK51]; exact kS_ne p50_o8 (by omega)
  have p51_o9 : K51 (o + 9) = some (.inr (0, 122)) := by rw [eK51]; exact kS_ne p50_o9 (by omega)
  have p51_o10 : K51 (o + 10) = some (.inr (0, 4)) := by rw [eK51]; exact kS_ne p50_o10 (by omega)
  have p51_o11 : K51 (o + 11) = some (.inr (0, 36)) := by rw [eK51]; exact kS_ne p50_o11 (by omega)
  have p51_o12 : K51 (o + 12) = some (.inr (3, 6)) := by rw [eK51]; exact kS_ne p50_o12 (by omega)
  have p51_o13 : K51 (o + 13) = some (.inr (0, 36)) := by rw [eK51]; exact kS_ne p50_o13 (by omega)
  have p51_o14 : K51 (o + 14) = some (.inr (0, 6)) := by rw [eK51]; exact kS_ne p50_o14 (by omega)
  have p51_o15 : K51 (o + 15) = some (.inr (0, 36)) := by rw [eK51]; exact kS_ne p50_o15 (by omega)
  have p51_o16 : K51 (o + 16) = some (.inr (0, 36)) := by rw [eK51]; exact kS_ne p50_o16 (by omega)
  have p51_o17 : K51 (o + 17) = some (.inr (0, 36)) := by rw [eK51]; exact kS_ne p50_o17 (by omega)
  have p51_o18 : K51 (o + 18) = some (.inr (0, 6)) := by rw [eK51]; exact kS_ne p50_o18 (by omega)
  have p51_o19 : K51 (o + 19) = some (.inr (0, 384)) := by rw [eK51]; exact kS_ne p50_o19 (by omega)
  have p51_o20 : K51 (o + 20) = some (.inr (0, 384)) := by rw [eK51]; exact kS_ne p50_o20 (by omega)
  have p51_o21 : K51 (o + 21) = some (.inr (0, 384)) := by rw [eK51]; exact kS_ne p50_o21 (by omega)
  have p51_o22 : K51 (o + 22) = some (.inr (3, 384)) := by rw [eK51]; exact kS_ne p50_o22 (by omega)
  have p51_o23 : K51 (o + 23) = some (.inr (3, 384)) := by rw [eK51]; exact kS_ne p50_o23 (by omega)
  have p51_o24 : K51 (o + 24) = some (.inr (0, 384)) := by rw [eK51]; exact kS_ne p50_o24 (by omega)
  have p51_o25 : K51 (o + 25) = some (.inr (0, 384)) := by rw [eK51]; exact kS_ne p50_o25 (by omega)
  have p51_o26 : K51 (o + 26) = some (.inr (0, 384)) := by rw [eK51]; exact kS_ne p50_o26 (by omega)
  have p51_o27 : K51 (o + 27) = some (.inr (0, 384)) := by rw [eK51]; exact kS_ne p50_o27 (by omega)
  have p51_o28 : K51 (o + 28) = some (.inr (0, 384)) := by rw [eK51]; exact kS_ne p50_o28 (by omega)
  have p51_o29 : K51 (o + 29) = some (.inr (0, 4096)) := by rw [eK51]; exact kS_ne p50_o29 (by omega)
  have p51_o30 : K51 (o + 30) = some (.inr (0, 4096)) := by rw [eK51]; exact kS_ne p50_o30 (by omega)
  have p51_o31 : K51 (o + 31) = some (.inr (0, 4096)) := by rw [eK51]; exact kS_ne p50_o31 (by omega)
  have p51_o32 : K51 (o + 32) = some (.inr (0, 4096)) := by rw [eK51]; exact kS_ne p50_o32 (by omega)
  have p51_o33 : K51 (o + 33) = some (.inr (0, 4096)) := by rw [eK51]; exact kS_ne p50_o33 (by omega)
  have p51_o34 : K51 (o + 34) = some (.inr (0, 4096)) := by rw [eK51]; exact kS_ne p50_o34 (by omega)
  have p51_o35 : K51 (o + 35) = some (.inr (0, 4096)) := by rw [eK51]; exact kS_ne p50_o35 (by omega)
  have p51_o36 : K51 (o + 36) = some (.inr (0, 4096)) := by rw [eK51]; exact kS_ne p50_o36 (by omega)
  have p51_o37 : K51 (o + 37) = some (.inr (0, 4096)) := by rw [eK51]; exact kS_ne p50_o37 (by omega)
  have p51_o38 : K51 (o + 38) = some (.inr (0, 4096)) := by rw [eK51]; exact kS_ne p50_o38 (by omega)
  have p51_o39 : K51 (o + 39) = some (.inr (0, 4096)) := by rw [eK51]; exact kS_ne p50_o39 (by omega)
  have p51_o40 : K51 (o + 40) = some (.inr (0, 64)) := by rw [eK51]; exact kS_ne p50_o40 (by omega)
  have p51_o41 : K51 (o + 41) = some (.inr (0, 64)) := by rw [eK51]; exact kS_ne p50_o41 (by omega)
  have p51_o42 : K51 (o + 42) = some (.inr (0, 64)) := by rw [eK51]; exact kS_ne p50_o42 (by omega)
  have p51_o43 : K51 (o + 43) = some (.inr (0, 64)) := by rw [eK51]; exact kS_ne p50_o43 (by omega)
  have p51_o44 : K51 (o + 44) = some (.inr (0, 64)) := by rw [eK51]; exact kS_ne p50_o44 (by omega)
  have p51_o45 : K51 (o + 45) = some (.inr (0, 64)) := by rw [eK51]; exact kS_ne p50_o45 (by omega)
  have p51_o46 : K51 (o + 46) = some (.inr (0, 64)) := by rw [eK51]; exact kS_ne p50_o46 (by omega)
  have p51_o47 : K51 (o + 47) = some (.inr (0, 64)) := by rw [eK51]; exact kS_ne p50_o47 (by omega)
  have p51_o48 : K51 (o + 48) = some (.inr (0, 48)) := by rw [eK51]; exact kS_ne p50_o48 (by omega)
  have p51_o49 : K51 (o + 49) = some (.inr (0, 8)) := by rw [eK51]; exact kS_ne p50_o49 (by omega)
  have p51_o50 : K51 (o + 50) = some (.inr (0, 36)) := by rw [eK51]; exact kS_ne q50 (by omega)
  have q51 : K51 (o + 51) = some (.inr (0, 40)) := by rw [eK51]; exact kS_eq
  obtain ⟨h102, eh102⟩ : ∃ q, q = sR h101 o 84 (some (o + 51)) := ⟨_, rfl⟩
  refine i_putF (h' := h102) (ty := .array (.int)) (sz := o + 52) X O (by decide +kernel) fl11_162r.1 (fun C T N h => by cases h; exact ⟨rfl, by decide +kernel⟩) (fun C T N h => by cases h; rfl) rfl rfl p51_o (by rw [fl11_162r.2, eh102]; exact Wr.r (x := some (o + 51))) ?_
  refine g_aload_n (n := 0) (sz := o + 52) X (by decide +kernel) 0 rfl ?_
  refine g_iconst (n := 3) (x := (3 : Int32)) (sz := o + 52) X (by decide +kernel) (by decide) ?_
  refine i_newa (aty := .boolean) (t := 2) (n := 3) (sz := o + 52) X O (by decide +kernel) (by decide) rfl ac_2 rfl (by decide) (by decide) (by decide) (by decide) (by decide) ?_
  obtain ⟨K52, eK52⟩ : ∃ q, q = kS K51 (o + 52) (.inr (2, 3)) := ⟨_, rfl⟩
  rw [← eK52]
  obtain ⟨h103, eh103⟩ : ∃ q, q = zr h102 (o + 52) := ⟨_, rfl⟩
  rw [← eh103]
  have p52_o : K52 (o) = some (.inl 23) := by rw [eK52]; exact kS_ne p51_o (by omega)
  have p52_o1 : K52 (o + 1) = some (.inr (1, 2400)) := by rw [eK52]; exact kS_ne p51_o1 (by omega)
  have p52_o2 : K52 (o + 2) = some (.inr (0, 4)) := by rw [eK52]; exact kS_ne p51_o2 (by omega)
  have p52_o3 : K52 (o + 3) = some (.inr (0, 4)) := by rw [eK52]; exact kS_ne p51_o3 (by omega)
  have p52_o4 : K52 (o + 4) = some (.inr (0, 4)) := by rw [eK52]; exact kS_ne p51_o4 (by omega)
  have p52_o5 : K52 (o + 5) = some (.inr (0, 12)) := by rw [eK52]; exact kS_ne p51_o5 (by omega)
  have p52_o6 : K52 (o + 6) = some (.inr (0, 976)) := by rw [eK52]; exact kS_ne p51_o6 (by omega)
  have p52_o7 : K52 (o + 7) = some (.inr (0, 968)) := by rw [eK52]; exact kS_ne p51_o7 (by omega)
  have p52_o8 : K52 (o + 8) = some (.inr (0, 136)) := by rw [eK52]; exact kS_ne p51_o8 (by omega)
  have p52_o9 : K52 (o + 9) = some (.inr (0, 122)) := by rw [eK52]; exact kS_ne p51_o9 (by omega)
  have p52_o10 : K52 (o + 10) = some (.inr (0, 4)) := by rw [eK52]; exact kS_ne p51_o10 (by omega)
  have p52_o11 : K52 (o + 11) = some (.inr (0, 36)) := by rw [eK52]; exact kS_ne p51_o11 (by omega)
  have p52_o12 : K52 (o + 12) = some (.inr (3, 6)) := by rw [eK52]; exact kS_ne p51_o12 (by omega)
  have p52_o13 : K52 (o + 13) = some (.inr (0, 36)) := by rw [eK52]; exact kS_ne p51_o13 (by omega)
  have p52_o14 : K52 (o + 14) = some (.inr (0, 6)) := by rw [eK52]; exact kS_ne p51_o14 (by omega)
  have p52_o15 : K52 (o + 15) = some (.inr (0, 36)) := by rw [eK52]; exact kS_ne p51_o15 (by omega)
  have p52_o16 : K52 (o + 16) = some (.inr (0, 36)) := by rw [eK52]; exact kS_ne p51_o16 (by omega)
  have p52_o17 : K52 (o + 17) = some (.inr (0, 36)) := by rw [eK52]; exact kS_ne p51_o17 (by omega)
  have p52_o18 : K52 (o + 18) = some (.inr (0, 6)) := by rw [eK52]; exact kS_ne p51_o18 (by omega)
  have p52_o19 : K52 (o + 19) = some (.inr (0, 384)) := by rw [eK52]; exact kS_ne p51_o19 (by omega)
  have p52_o20 : K52 (o + 20) = some (.inr (0, 384)) := by rw [eK52]; exact kS_ne p51_o20 (by omega)
  have p52_o21 : K52 (o + 21) = some (.inr (0, 384)) := by rw [eK52]; exact kS_ne p51_o21 (by omega)
  have p52_o22 : K52 (o + 22) = some (.inr (3, 384)) := by rw [eK52]; exact kS_ne p51_o22 (by omega)
  have p52_o23 : K52 (o + 23) = some (.inr (3, 384)) := by rw [eK52]; exact kS_ne p51_o23 (by omega)
  have p52_o24 : K52 (o + 24) = some (.inr (0, 384)) := by rw [eK52]; exact kS_ne p51_o24 (by omega)
  have p52_o25 : K52 (o + 25) = some (.inr (0, 384)) := by rw [eK52]; exact kS_ne p51_o25 (by omega)
  have p52_o26 : K52 (o + 26) = some (.inr (0, 384)) := by rw [eK52]; exact kS_ne p51_o26 (by omega)
  have p52_o27 : K52 (o + 27) = some (.inr (0, 384)) := by rw [eK52]; exact kS_ne p51_o27 (by omega)
  have p52_o28 : K52 (o + 28) = some (.inr (0, 384)) := by rw [eK52]; exact kS_ne p51_o28 (by omega)
  have p52_o29 : K52 (o + 29) = some (.inr (0, 4096)) := by rw [eK52]; exact kS_ne p51_o29 (by omega)
  have p52_o30 : K52 (o + 30) = some (.inr (0, 4096)) := by rw [eK52]; exact kS_ne p51_o30 (by omega)
  have p52_o31 : K52 (o + 31) = some (.inr (0, 4096)) := by rw [eK52]; exact kS_ne p51_o31 (by omega)
  have p52_o32 : K52 (o + 32) = some (.inr (0, 4096)) := by rw [eK52]; exact kS_ne p51_o32 (by omega)
  have p52_o33 : K52 (o + 33) = some (.inr (0, 4096)) := by rw [eK52]; exact kS_ne p51_o33 (by omega)
  have p52_o34 : K52 (o + 34) = some (.inr (0, 4096)) := by rw [eK52]; exact kS_ne p51_o34 (by omega)
  have p52_o35 : K52 (o + 35) = some (.inr (0, 4096)) := by rw [eK52]; exact kS_ne p51_o35 (by omega)
  have p52_o36 : K52 (o + 36) = some (.inr (0, 4096)) := by rw [eK52]; exact kS_ne p51_o36 (by omega)
  have p52_o37 : K52 (o + 37) = some (.inr (0, 4096)) := by rw [eK52]; exact kS_ne p51_o37 (by omega)
  have p52_o38 : K52 (o + 38) = some (.inr (0, 4096)) := by rw [eK52]; exact kS_ne p51_o38 (by omega)
  have p52_o39 : K52 (o + 39) = some (.inr (0, 4096)) := by rw [eK52]; exact kS_ne p51_o39 (by omega)
  have p52_o40 : K52 (o + 40) = some (.inr (0, 64)) := by rw [eK52]; exact kS_ne p51_o40 (by omega)
  have p52_o41 : K52 (o + 41) = some (.inr (0, 64)) := by rw [eK52]; exact kS_ne p51_o41 (by omega)
  have p52_o42 : K52 (o + 42) = some (.inr (0, 64)) := by rw [eK52]; exact kS_ne p51_o42 (by omega)
  have p52_o43 : K52 (o + 43) = some (.inr (0, 64)) := by rw [eK52]; exact kS_ne p51_o43 (by omega)
  have p52_o44 : K52 (o + 44) = some (.inr (0, 64)) := by rw [eK52]; exact kS_ne p51_o44 (by omega)
  have p52_o45 : K52 (o + 45) = some (.inr (0, 64)) := by rw [eK52]; exact kS_ne p51_o45 (by omega)
  have p52_o46 : K52 (o + 46) = some (.inr (0, 64)) := by rw [eK52]; exact kS_ne p51_o46 (by omega)
  have p52_o47 : K52 (o + 47) = some (.inr (0, 64)) := by rw [eK52]; exact kS_ne p51_o47 (by omega)
  have p52_o48 : K52 (o + 48) = some (.inr (0, 48)) := by rw [eK52]; exact kS_ne p51_o48 (by omega)
  have p52_o49 : K52 (o + 49) = some (.inr (0, 8)) := by rw [eK52]; exact kS_ne p51_o49 (by omega)
  have p52_o50 : K52 (o + 50) = some (.inr (0, 36)) := by rw [eK52]; exact kS_ne p51_o50 (by omega)
  have p52_o51 : K52 (o + 51) = some (.inr (0, 40)) := by rw [eK52]; exact kS_ne q51 (by omega)
  have q52 : K52 (o + 52) = some (.inr (2, 3)) := by rw [eK52]; exact kS_eq
  obtain ⟨h104, eh104⟩ : ∃ q, q = sR h103 o 86 (some (o + 52)) := ⟨_, rfl⟩
  refine i_putF (h' := h104) (ty := .array (.boolean)) (sz := o + 53) X O (by decide +kernel) fl11_165r.1 (fun C T N h => by cases h; exact ⟨rfl, by decide +kernel⟩) (fun C T N h => by cases h; rfl) rfl rfl p52_o (by rw [fl11_165r.2, eh104]; exact Wr.r (x := some (o + 52))) ?_
  refine g_aload_n (n := 0) (sz := o + 53) X (by decide +kernel) 0 rfl ?_
  refine g_getR (e := o + 4) (sz := o + 53) X (by decide +kernel) fl11_20r p52_o (by subst eh104; subst eh103; subst eh102; subst eh101; subst eh100; subst eh99; subst eh98; subst eh97; subst eh96; subst eh95; subst eh94; subst eh93; subst eh92; subst eh91; subst eh90; subst eh89; subst eh88; subst eh87; subst eh86; subst eh85; subst eh84; subst eh83; subst eh82; subst eh81; subst eh80; subst eh79; subst eh78; subst eh77; subst eh76; subst eh75; subst eh74; subst eh73; subst eh72; subst eh71; subst eh70; subst eh69; subst eh68; subst eh67; subst eh66; subst eh65; subst eh64; subst eh63; subst eh62; subst eh61; subst eh60; subst eh59; subst eh58; subst eh57; subst eh56; subst eh55; subst eh54; subst eh53; subst eh52; subst eh51; subst eh50; subst eh49; subst eh48; subst eh47; subst eh46; subst eh45; subst eh44; subst eh43; subst eh42; subst eh41; subst eh40; subst eh39; subst eh38; subst eh37; subst eh36; subst eh35; subst eh34; subst eh33; subst eh32; subst eh31; subst eh30; subst eh29; subst eh28; subst eh27; subst eh26; subst eh25; subst eh24; subst eh23; subst eh22; subst eh21; subst eh20; subst eh19; subst eh18; subst eh17; subst eh16; subst eh15; subst eh14; subst eh13; subst eh12; subst eh11; subst eh10; subst eh9; subst eh8; subst eh7; subst eh6; subst eh5; subst eh4; subst eh3; subst eh2; subst eh1; simp [sI, sL, sR, zr]) ?_
  refine g_iconst (n := 0) (x := (0 : Int32)) (sz := o + 53) X (by decide +kernel) (by decide) ?_
  refine g_iconst (n := -1) (x := (-1 : Int32)) (sz := o + 53) X (by decide +kernel) (by decide) ?_
  obtain ⟨h105, eh105⟩ : ∃ q, sI h104 (o + 4) (0 : Int32).toNatClampNeg (-1 : Int32) = q := ⟨_, rfl⟩
  refine g_iast (sz := o + 53) X (by decide +kernel) p52_o4 (by decide) eh105 ?_
  refine i_fin (ci := 11) (sz := o + 53) X p52_o rfl rfl ?_ ?_
  · intro j hj
    subst eh105
    subst eh104
    subst eh103
    subst eK52
    subst eh102
    subst eh101
    subst eK51
    subst eh100
    subst eh99
    subst eK50
    subst eh98
    subst eh97
    subst eK49
    subst eh96
    subst eh95
    subst eK48
    subst eh94
    subst eh93
    subst eK47
    subst eh92
    subst eh91
    subst eK46
    subst eh90
    subst eh89
    subst eK45
    subst eh88
    subst eh87
    subst eK44
    subst eh86
    subst eh85
    subst eK43
    subst eh84
    subst eh83
    subst eK42
    subst eh82
    subst eh81
    subst eK41
    subst eh80
    subst eh79
    subst eK40
    subst eh78
    subst eh77
    subst eK39
    subst eh76
    subst eh75
    subst eK38
    subst eh74
    subst eh73
    subst eK37
    subst eh72
    subst eh71
    subst eK36
    subst eh70
    subst eh69
    subst eK35
    subst eh68
    subst eh67
    subst eK34
    subst eh66
    subst eh65
    subst eK33
    subst eh64
    subst eh63
    subst eK32
    subst eh62
    subst eh61
    subst eK31
    subst eh60
    subst eh59
    subst eK30
    subst eh58
    subst eh57
    subst eK29
    subst eh56
    subst eh55
    subst eK28
    subst eh54
    subst eh53
    subst eK27
    subst eh52
    subst eh51
    subst eK26
    subst eh50
    subst eh49
    subst eK25
    subst eh48
    subst eh47
    subst eK24
    subst eh46
    subst eh45
    subst eK23
    subst eh44
    subst eh43
    subst eK22
    subst eh42
    subst eh41
    subst eK21
    subst eh40
    subst eh39
    subst eK20
    subst eh38
    subst eh37
    subst eK19
    subst eh36
    subst eh35
    subst eK18
    subst eh34
    subst eh33
    subst eK17
    subst eh32
    subst eh31
    subst eK16
    subst eh30
    subst eh29
    subst eK15
    subst eh28
    subst eh27
    subst eK14
    subst eh26
    subst eh25
    subst eK13
    subst eh24
    subst eh23
    subst eK12
    subst eh22
    subst eh21
    subst eK11
    subst eh20
    subst eh19
    subst eK10
    subst eh18
    subst eh17
    subst eK9
    subst eh16
    subst eh15
    subst eK8
    subst eh14
    subst eh13
    subst eK7
    subst eh12
    subst eh11
    subst eK6
    subst eh10
    subst eh9
    subst eK5
    subst eh8
    subst eh7
    subst eK4
    subst eh6
    subst eh5
    subst eK3
    subst eh4
    subst eh3
    subst eK2
    subst eh2
    subst eh1
    subst eK1
    exact hall11 K h o j hj
  · subst eh105
    subst eh104
    subst eh103
    subst eK52
    subst eh102
    subst eh101
    subst eK51
    subst eh100
    subst eh99
    subst eK50
    subst eh98
    subst eh97
    subst eK49
    subst eh96
    subst eh95
    subst eK48
    subst eh94
    subst eh93
    subst eK47
    subst eh92
    subst eh91
    subst eK46
    subst eh90
    subst eh89
    subst eK45
    subst eh88
    subst eh87
    subst eK44
    subst eh86
    subst eh85
    subst eK43
    subst eh84
    subst eh83
    subst eK42
    subst eh82
    subst eh81
    subst eK41
    subst eh80
    subst eh79
    subst eK40
    subst eh78
    subst eh77
    subst eK39
    subst eh76
    subst eh75
    subst eK38
    subst eh74
    subst eh73
    subst eK37
    subst eh72
    subst eh71
    subst eK36
    subst eh70
    subst eh69
    subst eK35
    subst eh68
    subst eh67
    subst eK34
    subst eh66
    subst eh65
    subst eK33
    subst eh64
    subst eh63
    subst eK32
    subst eh62
    subst eh61
    subst eK31
    subst eh60
    subst eh59
    subst eK30
    subst eh58
    subst eh57
    subst eK29
    subst eh56
    subst eh55
    subst eK28
    subst eh54
    subst eh53
    subst eK27
    subst eh52
    subst eh51
    subst eK26
    subst eh50
    subst eh49
    subst eK25
    subst eh48
    subst eh47
    subst eK24
    subst eh46
    subst eh45
    subst eK23
    subst eh44
    subst eh43
    subst eK22
    subst eh42
    subst eh41
    subst eK21
    subst eh40
    subst eh39
    subst eK20
    subst eh38
    subst eh37
    subst eK19
    subst eh36
    subst eh35
    subst eK18
    subst eh34
    subst eh33
    subst eK17
    subst eh32
    subst eh31
    subst eK16
    subst eh30
    subst eh29
    subst eK15
    subst eh28
    subst eh27
    subst eK14
    subst eh26
    subst eh25
    subst eK13
    subst eh24
    subst eh23
    subst eK12
    subst eh22
    subst eh21
    subst eK11
    subst eh20
    subst eh19
    subst eK10
    subst eh18
    subst eh17
    subst eK9
    subst eh16
    subst eh15
    subst eK8
    subst eh14
    subst eh13
    subst eK7
    subst eh12
    subst eh11
    subst eK6
    subst eh10
    subst eh9
    subst eK5
    subst eh8
    subst eh7
    subst eK4
    subst eh6
    subst eh5
    subst eK3
    subst eh4
    subst eh3
    subst eK2
    subst eh2
    subst eh1
    subst eK1
    exact i_ret (sz := o + 53) X O (by decide +kernel) (by decide) (by decide)
