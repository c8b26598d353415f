set_option maxRecDepth 100000 in
theorem mk1_init : MKk 2 y1_init prog_11_method_1_code 1 none 0 := ⟨in_c1 34 rfl rfl, ini1, ⟨by decide +kernel, by decide +kernel, by decide +kernel⟩, by decide, ⟨rfl, in_c1 33 rfl rfl⟩⟩
set_option maxRecDepth 100000 in
theorem mi0_9 : MLk 2 Rc0 9 y1_init prog_11_method_1_code 1 none 0 := mk1_init.link (Or.inr ⟨"AskedNames", in_k1 32 rfl⟩)
set_option maxRecDepth 100000 in
theorem mk5_init : MKk 2 y5_init prog_8_method_1_code 1 none 0 := ⟨in_c1 213 rfl rfl, ini5, ⟨by decide +kernel, by decide +kernel, by decide +kernel⟩, by decide, ⟨rfl, in_c1 212 rfl rfl⟩⟩
set_option maxRecDepth 100000 in
theorem mi0_26 : MLk 2 Rc0 26 y5_init prog_8_method_1_code 1 none 0 := mk5_init.link (Or.inr ⟨"AskedNames", in_k1 211 rfl⟩)
set_option maxRecDepth 100000 in
theorem mk10_init : MKk 2 y10_init prog_2_method_1_code 2 none 0 := ⟨in_c2 34 rfl rfl, ini10, ⟨by decide +kernel, by decide +kernel, by decide +kernel⟩, by decide, ⟨rfl, in_c2 33 rfl rfl⟩⟩
set_option maxRecDepth 100000 in
theorem mi0_33 : MLk 2 Rc0 33 y10_init prog_2_method_1_code 2 none 0 := mk10_init.link (Or.inl (in_c2 32 rfl rfl))
set_option maxRecDepth 100000 in
theorem mk2_init : MKk 2 y2_init prog_7_method_1_code 1 none 0 := ⟨in_c1 41 rfl rfl, ini2, ⟨by decide +kernel, by decide +kernel, by decide +kernel⟩, by decide, ⟨rfl, in_c1 40 rfl rfl⟩⟩
set_option maxRecDepth 100000 in
theorem mi1_31 : MLk 2 Rc1 31 y2_init prog_7_method_1_code 1 none 0 := mk2_init.link (Or.inr ⟨"AskedNames", in_k1 39 rfl⟩)
set_option maxRecDepth 100000 in
theorem mk3_init : MKk 2 y3_init prog_9_method_1_code 1 none 0 := ⟨in_c1 130 rfl rfl, ini3, ⟨by decide +kernel, by decide +kernel, by decide +kernel⟩, by decide, ⟨rfl, in_c1 129 rfl rfl⟩⟩
set_option maxRecDepth 100000 in
theorem mi1_38 : MLk 2 Rc1 38 y3_init prog_9_method_1_code 1 none 0 := mk3_init.link (Or.inr ⟨"AskedNames", in_k1 128 rfl⟩)
set_option maxRecDepth 100000 in
theorem mk4_init : MKk 2 y4_init prog_5_method_1_code 1 none 0 := ⟨in_c1 159 rfl rfl, ini4, ⟨by decide +kernel, by decide +kernel, by decide +kernel⟩, by decide, ⟨rfl, in_c1 158 rfl rfl⟩⟩
set_option maxRecDepth 100000 in
theorem mi1_45 : MLk 2 Rc1 45 y4_init prog_5_method_1_code 1 none 0 := mk4_init.link (Or.inr ⟨"AskedNames", in_k1 157 rfl⟩)
set_option maxRecDepth 100000 in
theorem mi5_11 : MLk 2 Rc5 11 y2_init prog_7_method_1_code 1 none 0 := mk2_init.link (Or.inr ⟨"AskedNames", in_k1 216 rfl⟩)
set_option maxRecDepth 100000 in
theorem mi5_20 : MLk 2 Rc5 20 y3_init prog_9_method_1_code 1 none 0 := mk3_init.link (Or.inr ⟨"AskedNames", in_k1 218 rfl⟩)
set_option maxRecDepth 100000 in
theorem mi5_27 : MLk 2 Rc5 27 y4_init prog_5_method_1_code 1 none 0 := mk4_init.link (Or.inr ⟨"AskedNames", in_k1 220 rfl⟩)
set_option maxRecDepth 100000 in
theorem mi10_11 : MLk 2 Rc10 11 y2_init prog_7_method_1_code 1 none 0 := mk2_init.link (Or.inr ⟨"AskedNames", in_k2 37 rfl⟩)
set_option maxRecDepth 100000 in
theorem mk7_init : MKk 2 y7_init prog_6_method_1_code 1 none 0 := ⟨in_c2 45 rfl rfl, ini7, ⟨by decide +kernel, by decide +kernel, by decide +kernel⟩, by decide, ⟨rfl, in_c2 44 rfl rfl⟩⟩
set_option maxRecDepth 100000 in
theorem mi10_49 : MLk 2 Rc10 49 y7_init prog_6_method_1_code 1 none 0 := mk7_init.link (Or.inr ⟨"AskedNames", in_k2 43 rfl⟩)
set_option maxRecDepth 100000 in
theorem mk6_init : MKk 2 y6_init prog_3_method_1_code 1 none 0 := ⟨in_c2 114 rfl rfl, ini6, ⟨by decide +kernel, by decide +kernel, by decide +kernel⟩, by decide, ⟨rfl, in_c2 113 rfl rfl⟩⟩
set_option maxRecDepth 100000 in
theorem mi10_80 : MLk 2 Rc10 80 y6_init prog_3_method_1_code 1 none 0 := mk6_init.link (Or.inr ⟨"AskedNames", in_k2 112 rfl⟩)
set_option maxRecDepth 100000 in
theorem mk8_init : MKk 2 y8_init prog_10_method_1_code 1 none 0 := ⟨in_c2 165 rfl rfl, ini8, ⟨by decide +kernel, by decide +kernel, by decide +kernel⟩, by decide, ⟨rfl, in_c2 164 rfl rfl⟩⟩
set_option maxRecDepth 100000 in
theorem mi10_81 : MLk 2 Rc10 81 y8_init prog_10_method_1_code 1 none 0 := mk8_init.link (Or.inr ⟨"AskedNames", in_k2 163 rfl⟩)
set_option maxRecDepth 100000 in
theorem mk9_init : MKk 2 y9_init prog_4_method_1_code 1 none 0 := ⟨in_c2 191 rfl rfl, ini9, ⟨by decide +kernel, by decide +kernel, by decide +kernel⟩, by decide, ⟨rfl, in_c2 190 rfl rfl⟩⟩
set_option maxRecDepth 100000 in
theorem mi10_82 : MLk 2 Rc10 82 y9_init prog_4_method_1_code 1 none 0 := mk9_init.link (Or.inr ⟨"AskedNames", in_k2 189 rfl⟩)
set_option maxRecDepth 100000 in
theorem mk0_init : MKk 2 y0_init prog_1_method_1_code 1 none 0 := ⟨in_c1 26 rfl rfl, ini0, ⟨by decide +kernel, by decide +kernel, by decide +kernel⟩, by decide, ⟨rfl, in_c1 25 rfl rfl⟩⟩
set_option maxRecDepth 100000 in
theorem miL_9 : MLk 2 "AskedNamesLaw" 9 y0_init prog_1_method_1_code 1 none 0 := mk0_init.link (Or.inl (in_c1 24 rfl rfl))
set_option maxRecDepth 100000 in
theorem mk11_init : MKk 2 y11_init prog_13_method_1_code 1 none 0 := ⟨in_c5 197 rfl rfl, ini11, ⟨by decide +kernel, by decide +kernel, by decide +kernel⟩, by decide, ⟨rfl, in_c5 196 rfl rfl⟩⟩
set_option maxRecDepth 100000 in
theorem miL_12 : MLk 2 "AskedNamesLaw" 12 y11_init prog_13_method_1_code 1 none 0 := mk11_init.link (Or.inl (in_c5 195 rfl rfl))
set_option maxRecDepth 100000 in
theorem ob_i : Cond.instanceMethod Lib.objectInit ∈ lw_g := in_c1 28 rfl rfl
set_option maxRecDepth 100000 in
theorem ob_c : Cond.code Lib.objectInit ⟨#[0xb1]⟩ 1 none ∈ lw_g := in_c1 29 rfl rfl
set_option maxRecDepth 100000 in
theorem inst0 : Cond.instantiable Rc0 8 ∈ lw_g := in_c1 23 rfl rfl
theorem def0 : ∀ (ty : Nat → FieldType), (∀ k, k < 8 → parseFieldDescriptor (Tc0 k).2.2.1 = some (ty k)) → ∀ k, k < 8 → defaultValue (ty k) = (match fc 12 k with
      | 0 => Value.int 0
      | 1 => .long 0
      | _ => .null) := by
  intro ty hty k hk
  have h1 := (ty0 k hk).symm.trans (hty k hk)
  rw [← Option.some.inj h1]
  exact (show ∀ k, k < 8 → defaultValue (yc0 k) = (match fc 12 k with
      | 0 => Value.int 0
      | 1 => .long 0
      | _ => .null) by decide +kernel) k hk
theorem raw0 : ∀ k, k < 8 → fc 12 k ≤ 2 := by decide +kernel
set_option maxRecDepth 100000 in
theorem inst1 : Cond.instantiable Rc1 8 ∈ lw_g := in_c1 31 rfl rfl
theorem def1 : ∀ (ty : Nat → FieldType), (∀ k, k < 8 → parseFieldDescriptor (Tc1 k).2.2.1 = some (ty k)) → ∀ k, k < 8 → defaultValue (ty k) = (match fc 13 k with
      | 0 => Value.int 0
      | 1 => .long 0
      | _ => .null) := by
  intro ty hty k hk
  have h1 := (ty1 k hk).symm.trans (hty k hk)
  rw [← Option.some.inj h1]
  exact (show ∀ k, k < 8 → defaultValue (yc1 k) = (match fc 13 k with
      | 0 => Value.int 0
      | 1 => .long 0
      | _ => .null) by decide +kernel) k hk
theorem raw1 : ∀ k, k < 8 → fc 13 k ≤ 2 := by decide +kernel
set_option maxRecDepth 100000 in
theorem inst2 : Cond.instantiable Rc2 17 ∈ lw_g := in_c1 38 rfl rfl
theorem def2 : ∀ (ty : Nat → FieldType), (∀ k, k < 17 → parseFieldDescriptor (Tc2 k).2.2.1 = some (ty k)) → ∀ k, k < 17 → defaultValue (ty k) = (match fc 14 k with
      | 0 => Value.int 0
      | 1 => .long 0
      | _ => .null) := by
  intro ty hty k hk
  have h1 := (ty2 k hk).symm.trans (hty k hk)
  rw [← Option.some.inj h1]
  exact (show ∀ k, k < 17 → defaultValue (yc2 k) = (match fc 14 k with
      | 0 => Value.int 0
      | 1 => .long 0
      | _ => .null) by decide +kernel) k hk
theorem raw2 : ∀ k, k < 17 → fc 14 k ≤ 2 := by decide +kernel
set_option maxRecDepth 100000 in
theorem inst3 : Cond.instantiable Rc3 4 ∈ lw_g := in_c1 127 rfl rfl
theorem def3 : ∀ (ty : Nat → FieldType), (∀ k, k < 4 → parseFieldDescriptor (Tc3 k).2.2.1 = some (ty k)) → ∀ k, k < 4 → defaultValue (ty k) = (match fc 15 k with
      | 0 => Value.int 0
      | 1 => .long 0
      | _ => .null) := by
  intro ty hty k hk
  have h1 := (ty3 k hk).symm.trans (hty k hk)
  rw [← Option.some.inj h1]
  exact (show ∀ k, k < 4 → defaultValue (yc3 k) = (match fc 15 k with
      | 0 => Value.int 0
      | 1 => .long 0
      | _ => .null) by decide +kernel) k hk
theorem raw3 : ∀ k, k < 4 → fc 15 k ≤ 2 := by decide +kernel
set_option maxRecDepth 100000 in
theorem inst4 : Cond.instantiable Rc4 3 ∈ lw_g := in_c1 156 rfl rfl
theorem def4 : ∀ (ty : Nat → FieldType), (∀ k, k < 3 → parseFieldDescriptor (Tc4 k).2.2.1 = some (ty k)) → ∀ k, k < 3 → defaultValue (ty k) = (match fc 16 k with
      | 0 => Value.int 0
      | 1 => .long 0
      | _ => .null) := by
  intro ty hty k hk
  have h1 := (ty4 k hk).symm.trans (hty k hk)
  rw [← Option.some.inj h1]
  exact (show ∀ k, k < 3 → defaultValue (yc4 k) = (match fc 16 k with
      | 0 => Value.int 0
      | 1 => .long 0
      | _ => .null) by decide +kernel) k hk
theorem raw4 : ∀ k, k < 3 → fc 16 k ≤ 2 := by decide +kernel
set_option maxRecDepth 100000 in
theorem inst5 : Cond.instantiable Rc5 14 ∈ lw_g := in_c1 210 rfl rfl
theorem def5 : ∀ (ty : Nat → FieldType), (∀ k, k < 14 → parseFieldDescriptor (Tc5 k).2.2.1 = some (ty k)) → ∀ k, k < 14 → defaultValue (ty k) = (match fc 17 k with
      | 0 => Value.int 0
      | 1 => .long 0
      | _ => .null) := by
  intro ty hty k hk
  have h1 := (ty5 k hk).symm.trans (hty k hk)
  rw [← Option.some.inj h1]
  exact (show ∀ k, k < 14 → defaultValue (yc5 k) = (match fc 17 k with
      | 0 => Value.int 0
      | 1 => .long 0
      | _ => .null) by decide +kernel) k hk
theorem raw5 : ∀ k, k < 14 → fc 17 k ≤ 2 := by decide +kernel
set_option maxRecDepth 100000 in
theorem inst6 : Cond.instantiable Rc6 11 ∈ lw_g := in_c2 111 rfl rfl
theorem def6 : ∀ (ty : Nat → FieldType), (∀ k, k < 11 → parseFieldDescriptor (Tc6 k).2.2.1 = some (ty k)) → ∀ k, k < 11 → defaultValue (ty k) = (match fc 18 k with
      | 0 => Value.int 0
      | 1 => .long 0
      | _ => .null) := by
  intro ty hty k hk
  have h1 := (ty6 k hk).symm.trans (hty k hk)
  rw [← Option.some.inj h1]
  exact (show ∀ k, k < 11 → defaultValue (yc6 k) = (match fc 18 k with
      | 0 => Value.int 0
      | 1 => .long 0
      | _ => .null) by decide +kernel) k hk
theorem raw6 : ∀ k, k < 11 → fc 18 k ≤ 2 := by decide +kernel
set_option maxRecDepth 100000 in
theorem inst7 : Cond.instantiable Rc7 14 ∈ lw_g := in_c2 42 rfl rfl
theorem def7 : ∀ (ty : Nat → FieldType), (∀ k, k < 14 → parseFieldDescriptor (Tc7 k).2.2.1 = some (ty k)) → ∀ k, k < 14 → defaultValue (ty k) = (match fc 19 k with
      | 0 => Value.int 0
      | 1 => .long 0
      | _ => .null) := by
  intro ty hty k hk
  have h1 := (ty7 k hk).symm.trans (hty k hk)
  rw [← Option.some.inj h1]
  exact (show ∀ k, k < 14 → defaultValue (yc7 k) = (match fc 19 k with
      | 0 => Value.int 0
      | 1 => .long 0
      | _ => .null) by decide +kernel) k hk
theorem raw7 : ∀ k, k < 14 → fc 19 k ≤ 2 := by decide +kernel
set_option maxRecDepth 100000 in
theorem inst8 : Cond.instantiable Rc8 4 ∈ lw_g := in_c2 162 rfl rfl
theorem def8 : ∀ (ty : Nat → FieldType), (∀ k, k < 4 → parseFieldDescriptor (Tc8 k).2.2.1 = some (ty k)) → ∀ k, k < 4 → defaultValue (ty k) = (match fc 20 k with
      | 0 => Value.int 0
      | 1 => .long 0
      | _ => .null) := by
  intro ty hty k hk
  have h1 := (ty8 k hk).symm.trans (hty k hk)
  rw [← Option.some.inj h1]
  exact (show ∀ k, k < 4 → defaultValue (yc8 k) = (match fc 20 k with
      | 0 => Value.int 0
      | 1 => .long 0
      | _ => .null) by decide +kernel) k hk
theorem raw8 : ∀ k, k < 4 → fc 20 k ≤ 2 := by decide +kernel
set_option maxRecDepth 100000 in
theorem inst9 : Cond.instantiable Rc9 8 ∈ lw_g := in_c2 188 rfl rfl
theorem def9 : ∀ (ty : Nat → FieldType), (∀ k, k < 8 → parseFieldDescriptor (Tc9 k).2.2.1 = some (ty k)) → ∀ k, k < 8 → defaultValue (ty k) = (match fc 21 k with
      | 0 => Value.int 0
      | 1 => .long 0
      | _ => .null) := by
  intro ty hty k hk
  have h1 := (ty9 k hk).symm.trans (hty k hk)
  rw [← Option.some.inj h1]
  exact (show ∀ k, k < 8 → defaultValue (yc9 k) = (match fc 21 k with
      | 0 => Value.int 0
      | 1 => .long 0
      | _ => .null) by decide +kernel) k hk
theorem raw9 : ∀ k, k < 8 → fc 21 k ≤ 2 := by decide +kernel
set_option maxRecDepth 100000 in
theorem inst10 : Cond.instantiable Rc10 16 ∈ lw_g := in_c2 31 rfl rfl
theorem def10 : ∀ (ty : Nat → FieldType), (∀ k, k < 16 → parseFieldDescriptor (Tc10 k).2.2.1 = some (ty k)) → ∀ k, k < 16 → defaultValue (ty k) = (match fc 22 k with
      | 0 => Value.int 0
      | 1 => .long 0
      | _ => .null) := by
  intro ty hty k hk
  have h1 := (ty10 k hk).symm.trans (hty k hk)
  rw [← Option.some.inj h1]
  exact (show ∀ k, k < 16 → defaultValue (yc10 k) = (match fc 22 k with
      | 0 => Value.int 0
      | 1 => .long 0
      | _ => .null) by decide +kernel) k hk
theorem raw10 : ∀ k, k < 16 → fc 22 k ≤ 2 := by decide +kernel
set_option maxRecDepth 100000 in
theorem inst11 : Cond.instantiable Rc11 87 ∈ lw_g := in_c5 194 rfl rfl
theorem def11 : ∀ (ty : Nat → FieldType), (∀ k, k < 87 → parseFieldDescriptor (Tc11 k).2.2.1 = some (ty k)) → ∀ k, k < 87 → defaultValue (ty k) = (match fc 23 k with
      | 0 => Value.int 0
      | 1 => .long 0
      | _ => .null) := by
  intro ty hty k hk
  have h1 := (ty11 k hk).symm.trans (hty k hk)
  rw [← Option.some.inj h1]
  exact (show ∀ k, k < 87 → defaultValue (yc11 k) = (match fc 23 k with
      | 0 => Value.int 0
      | 1 => .long 0
      | _ => .null) by decide +kernel) k hk
theorem raw11 : ∀ k, k < 87 → fc 23 k ≤ 2 := by decide +kernel
set_option maxRecDepth 100000 in
theorem ac_0 : Cond.arrayClass (.int) ∈ lw_g := in_c1 124 rfl rfl
set_option maxRecDepth 100000 in
theorem ac_1 : Cond.arrayClass (.byte) ∈ lw_g := in_c1 123 rfl rfl
set_option maxRecDepth 100000 in
theorem ac_2 : Cond.arrayClass (.boolean) ∈ lw_g := in_c2 29 rfl rfl
set_option maxRecDepth 100000 in
theorem ac_3 : Cond.arrayClass (.long) ∈ lw_g := in_c2 161 rfl rfl
def kI2 (K : Ly) (o : Nat) : Ly := (kS (kS (kS (kS (kS (kS (kS (kS (kS (kS (kS (kS (kS K (o + 1) (.inr (0, 6))) (o + 2) (.inr (0, 15))) (o + 3) (.inr (0, 15))) (o + 4) (.inr (0, 15))) (o + 5) (.inr (0, 36))) (o + 6) (.inr (0, 12))) (o + 7) (.inr (0, 12))) (o + 8) (.inr (0, 12))) (o + 9) (.inr (0, 12))) (o + 10) (.inr (0, 6))) (o + 11) (.inr (0, 6))) (o + 12) (.inr (0, 6))) o (.inl 2))
def hI2 (h : Hp) (o : Nat) : Hp := (sR (zr (sR (zr (sR (zr (sR (zr (sR (zr (sR (zr (sR (zr (sR (zr (sR (zr (sR (zr (sR (zr (sR (zr (sI (sI (sI (sI (sI h o 0 (0 : Int32)) o 1 (0 : Int32)) o 2 (0 : Int32)) o 3 (0 : Int32)) o 4 (0 : Int32)) (o + 1)) o 5 (some (o + 1))) (o + 2)) o 6 (some (o + 2))) (o + 3)) o 7 (some (o + 3))) (o + 4)) o 8 (some (o + 4))) (o + 5)) o 9 (some (o + 5))) (o + 6)) o 10 (some (o + 6))) (o + 7)) o 11 (some (o + 7))) (o + 8)) o 12 (some (o + 8))) (o + 9)) o 13 (some (o + 9))) (o + 10)) o 14 (some (o + 10))) (o + 11)) o 15 (some (o + 11))) (o + 12)) o 16 (some (o + 12)))
theorem kI2_o {K : Ly} {o : Nat} : kI2 K o o = some (.inl 2) := by simp [kI2, kS]
theorem kI2_old {K : Ly} {o a : Nat} (ha : a < o) : kI2 K o a = K a := by
  unfold kI2
  repeat (first | rw [kS, if_neg (by omega)] | rfl)
set_option maxHeartbeats 4000000 in
set_option maxRecDepth 100000 in
theorem st2_5 (h : Hp) (o : Nat) : (hI2 h o).2.2 o 5 = some (o + 1) := by
  simp only [hI2, sI, sL, sR, zr]
  simp
set_option maxHeartbeats 4000000 in
set_option maxRecDepth 100000 in
theorem st2_6 (h : Hp) (o : Nat) : (hI2 h o).2.2 o 6 = some (o + 2) := by
  simp only [hI2, sI, sL, sR, zr]
  simp
set_option maxHeartbeats 4000000 in
set_option maxRecDepth 100000 in
theorem st2_7 (h : Hp) (o : Nat) : (hI2 h o).2.2 o 7 = some (o + 3) := by
  simp only [hI2, sI, sL, sR, zr]
  simp
set_option maxHeartbeats 4000000 in
set_option maxRecDepth 100000 in
theorem st2_8 (h : Hp) (o : Nat) : (hI2 h o).2.2 o 8 = some (o + 4) := by
  simp only [hI2, sI, sL, sR, zr]
  simp
set_option maxHeartbeats 4000000 in
set_option maxRecDepth 100000 in
theorem st2_9 (h : Hp) (o : Nat) : (hI2 h o).2.2 o 9 = some (o + 5) := by
  simp only [hI2, sI, sL, sR, zr]
  simp
set_option maxHeartbeats 4000000 in
set_option maxRecDepth 100000 in
theorem st2_10 (h : Hp) (o : Nat) : (hI2 h o).2.2 o 10 = some (o + 6) := by
  simp only [hI2, sI, sL, sR, zr]
  simp
set_option maxHeartbeats 4000000 in
set_option maxRecDepth 100000 in
theorem st2_11 (h : Hp) (o : Nat) : (hI2 h o).2.2 o 11 = some (o + 7) := by
  simp only [hI2, sI, sL, sR, zr]
  simp
set_option maxHeartbeats 4000000 in
set_option maxRecDepth 100000 in
theorem st2_12 (h : Hp) (o : Nat) : (hI2 h o).2.2 o 12 = some (o + 8) := by
  simp only [hI2, sI, sL, sR, zr]
  simp
set_option maxHeartbeats 4000000 in
set_option maxRecDepth 100000 in
theorem st2_13 (h : Hp) (o : Nat) : (hI2 h o).2.2 o 13 = some (o + 9) := by
  simp only [hI2, sI, sL, sR, zr]
  simp
set_option maxHeartbeats 4000000 in
set_option maxRecDepth 100000 in
theorem st2_14 (h : Hp) (o : Nat) : (hI2 h o).2.2 o 14 = some (o + 10) := by
  simp only [hI2, sI, sL, sR, zr]
  simp
set_option maxHeartbeats 4000000 in
set_option maxRecDepth 100000 in
theorem st2_15 (h : Hp) (o : Nat) : (hI2 h o).2.2 o 15 = some (o + 11) := by
  simp only [hI2, sI, sL, sR, zr]
  simp
set_option maxHeartbeats 4000000 in
set_option maxRecDepth 100000 in
theorem st2_16 (h : Hp) (o : Nat) : (hI2 h o).2.2 o 16 = some (o + 12) := by
  simp only [hI2, sI, sL, sR, zr]
  simp
theorem hall2 (K : Ly) (h : Hp) (o j : Nat) (hj : j < 17) : tV (fc 14 j) (hI2 h o) o j = tV (fc 2 j) (hI2 h o) o j := by
  by_cases hs : fc 14 j = fc 2 j
  · rw [hs]
  · have hm : j = 5 ∨ j = 6 ∨ j = 7 ∨ j = 8 ∨ j = 9 ∨ j = 10 ∨ j = 11 ∨ j = 12 ∨ j = 13 ∨ j = 14 ∨ j = 15 ∨ j = 16 := (show ∀ j, j < 17 → ¬ fc 14 j = fc 2 j → (j = 5 ∨ j = 6 ∨ j = 7 ∨ j = 8 ∨ j = 9 ∨ j = 10 ∨ j = 11 ∨ j = 12 ∨ j = 13 ∨ j = 14 ∨ j = 15 ∨ j = 16) by decide +kernel) j hj hs
    rcases hm with rfl | rfl | rfl | rfl | rfl | rfl | rfl | rfl | rfl | rfl | rfl | rfl
    · show va_rf ((hI2 h o).2.2 o 5) = .ref (o + 1)
      rw [st2_5]; rfl
    · show va_rf ((hI2 h o).2.2 o 6) = .ref (o + 2)
      rw [st2_6]; rfl
    · show va_rf ((hI2 h o).2.2 o 7) = .ref (o + 3)
      rw [st2_7]; rfl
    · show va_rf ((hI2 h o).2.2 o 8) = .ref (o + 4)
      rw [st2_8]; rfl
    · show va_rf ((hI2 h o).2.2 o 9) = .ref (o + 5)
      rw [st2_9]; rfl
    · show va_rf ((hI2 h o).2.2 o 10) = .ref (o + 6)
      rw [st2_10]; rfl
    · show va_rf ((hI2 h o).2.2 o 11) = .ref (o + 7)
      rw [st2_11]; rfl
    · show va_rf ((hI2 h o).2.2 o 12) = .ref (o + 8)
      rw [st2_12]; rfl
    · show va_rf ((hI2 h o).2.2 o 13) = .ref (o + 9)
      rw [st2_13]; rfl
    · show va_rf ((hI2 h o).2.2 o 14) = .ref (o + 10)
      rw [st2_14]; rfl
    · show va_rf ((hI2 h o).2.2 o 15) = .ref (o + 11)
      rw [st2_15]; rfl
    · show va_rf ((hI2 h o).2.2 o 16) = .ref (o + 12)
      rw [st2_16]; rfl
set_option maxHeartbeats 4000000 in
set_option maxRecDepth 100000 in
theorem ci2 {sp : Sp} {K : Ly} {h : Hp} {o : Nat} (hk : K o = some (.inl 14)) : ConI sp y2_init prog_7_method_1_code 1 1 12 153 o (o + 1) K h (o + 13) (kI2 K o) (hI2 h o) := by
  refine ConI.of (by decide) rfl (by decide) (fun Γ X O Q => ?_)
  refine g_aload_n (n := 0) (sz := o + 1) X (by decide +kernel) 0 rfl ?_
  refine i_obj (idx := 3) (sz := o + 1) X (by decide +kernel) (in_c1 42 rfl rfl) ob_i ob_c (by decide) (Nat.le_of_ble_eq_true rfl) ?_
  refine g_aload_n (n := 0) (sz := o + 1) X (by decide +kernel) 0 rfl ?_
  refine g_iconst (n := 0) (x := (0 : Int32)) (sz := o + 1) X (by decide +kernel) (by decide) ?_
  obtain ⟨h1, eh1⟩ : ∃ q, q = sI h o 0 (0 : Int32) := ⟨_, rfl⟩
  refine g_putf (h' := h1) (ty := .int) (sz := o + 1) X (by decide +kernel) fl2_9r.1 (fun C T N h => by cases h; exact ⟨rfl, by decide +kernel⟩) rfl rfl hk (by rw [fl2_9r.2, eh1]; exact Wr.i) ?_
  refine g_aload_n (n := 0) (sz := o + 1) X (by decide +kernel) 0 rfl ?_
  refine g_iconst (n := 0) (x := (0 : Int32)) (sz := o + 1) X (by decide +kernel) (by decide) ?_
  obtain ⟨h2, eh2⟩ : ∃ q, q = sI h1 o 1 (0 : Int32) := ⟨_, rfl⟩
  refine g_putf (h' := h2) (ty := .int) (sz := o + 1) X (by decide +kernel) fl2_15r.1 (fun C T N h => by cases h; exact ⟨rfl, by decide +kernel⟩) rfl rfl hk (by rw [fl2_15r.2, eh2]; exact Wr.i) ?_
  refine g_aload_n (n := 0) (sz := o + 1) X (by decide +kernel) 0 rfl ?_
  refine g_iconst (n := 0) (x := (0 : Int32)) (sz := o + 1) X (by decide +kernel) (by decide) ?_
  obtain ⟨h3, eh3⟩ : ∃ q, q = sI h2 o 2 (0 : Int32) := ⟨_, rfl⟩
  refine g_putf (h' := h3) (ty := .int) (sz := o + 1) X (by decide +kernel) fl2_18r.1 (fun C T N h => by cases h; exact ⟨rfl, by decide +kernel⟩) rfl rfl hk (by rw [fl2_18r.2, eh3]; exact Wr.i) ?_
  refine g_aload_n (n := 0) (sz := o + 1) X (by decide +kernel) 0 rfl ?_
  refine g_iconst (n := 0) (x := (0 : Int32)) (sz := o + 1) X (by decide +kernel) (by decide) ?_
  obtain ⟨h4, eh4⟩ : ∃ q, q = sI h3 o 3 (0 : Int32) := ⟨_, rfl⟩
  refine g_putf (h' := h4) (ty := .int) (sz := o + 1) X (by decide +kernel) fl2_21r.1 (fun C T N h => by cases h; exact ⟨rfl, by decide +kernel⟩) rfl rfl hk (by rw [fl2_21r.2, eh4]; exact Wr.i) ?_
  refine g_aload_n (n := 0) (sz := o + 1) X (by decide +kernel) 0 rfl ?_
  refine g_iconst (n := 0) (x := (0 : Int32)) (sz := o + 1) X (by decide +kernel) (by decide) ?_
  obtain ⟨h5, eh5⟩ : ∃ q, q = sI h4 o 4 (0 : Int32) := ⟨_, rfl⟩
  refine g_putf (h' := h5) (ty := .int) (sz := o + 1) X (by decide +kernel) fl2_24r.1 (fun C T N h => by cases h; exact ⟨rfl, by decide +kernel⟩) rfl rfl hk (by rw [fl2_24r.2, eh5]; exact Wr.i) ?_
  refine g_aload_n (n := 0) (sz := o + 1) X (by decide +kernel) 0 rfl ?_
  refine g_bipush (n := 6) (x := (6 : Int32)) (sz := o + 1) X (by decide +kernel) (by decide) ?_
  refine i_newa (aty := .int) (t := 0) (n := 6) (sz := o + 1) X O (by decide +kernel) (by decide) rfl ac_0 rfl (by decide) (by decide) (by decide) (by decide) (by decide) ?_
  obtain ⟨K1, eK1⟩ : ∃ q, q = kS K (o + 1) (.inr (0, 6)) := ⟨_, rfl⟩
  rw [← eK1]
  obtain ⟨h6, eh6⟩ : ∃ q, q = zr h5 (o + 1) := ⟨_, rfl⟩
  rw [← eh6]
  have p1_o : K1 (o) = some (.inl 14) := by rw [eK1]; exact kS_ne hk (by omega)
  have q1 : K1 (o + 1) = some (.inr (0, 6)) := by rw [eK1]; exact kS_eq
  obtain ⟨h7, eh7⟩ : ∃ q, q = sR h6 o 5 (some (o + 1)) := ⟨_, rfl⟩
  refine i_putF (h' := h7) (ty := .array (.int)) (sz := o + 2) X O (by decide +kernel) fl2_27r.1 (fun C T N h => by cases h; exact ⟨rfl, by decide +kernel⟩) (fun C T N h => by cases h; rfl) rfl rfl p1_o (by rw [fl2_27r.2, eh7]; exact Wr.r (x := some (o + 1))) ?_
  refine g_aload_n (n := 0) (sz := o + 2) X (by decide +kernel) 0 rfl ?_
  refine g_bipush (n := 15) (x := (15 : Int32)) (sz := o + 2) X (by decide +kernel) (by decide) ?_
  refine i_newa (aty := .int) (t := 0) (n := 15) (sz := o + 2) X O (by decide +kernel) (by decide) rfl ac_0 rfl (by decide) (by decide) (by decide) (by decide) (by decide) ?_
  obtain ⟨K2, eK2⟩ : ∃ q, q = kS K1 (o + 2) (.inr (0, 15)) := ⟨_, rfl⟩
  rw [← eK2]
  obtain ⟨h8, eh8⟩ : ∃ q, q = zr h7 (o + 2) := ⟨_, rfl⟩
  rw [← eh8]
  have p2_o : K2 (o) = some (.inl 14) := by rw [eK2]; exact kS_ne p1_o (by omega)
  have p2_o1 : K2 (o + 1) = some (.inr (0, 6)) := by rw [eK2]; exact kS_ne q1 (by omega)
  have q2 : K2 (o + 2) = some (.inr (0, 15)) := by rw [eK2]; exact kS_eq
  obtain ⟨h9, eh9⟩ : ∃ q, q = sR h8 o 6 (some (o + 2)) := ⟨_, rfl⟩
  refine i_putF (h' := h9) (ty := .array (.int)) (sz := o + 3) X O (by decide +kernel) fl2_31r.1 (fun C T N h => by cases h; exact ⟨rfl, by decide +kernel⟩) (fun C T N h => by cases h; rfl) rfl rfl p2_o (by rw [fl2_31r.2, eh9]; exact Wr.r (x := some (o + 2))) ?_
  refine g_aload_n (n := 0) (sz := o + 3) X (by decide +kernel) 0 rfl ?_
  refine g_bipush (n := 15) (x := (15 : Int32)) (sz := o + 3) X (by decide +kernel) (by decide) ?_
  refine i_newa (aty := .int) (t := 0) (n := 15) (sz := o + 3) X O (by decide +kernel) (by decide) rfl ac_0 rfl (by decide) (by decide) (by decide) (by decide) (by decide) ?_
  obtain ⟨K3, eK3⟩ : ∃ q, q = kS K2 (o + 3) (.inr (0, 15)) := ⟨_, rfl⟩
  rw [← eK3]
  obtain ⟨h10, eh10⟩ : ∃ q, q = zr h9 (o + 3) := ⟨_, rfl⟩
  rw [← eh10]
  have p3_o : K3 (o) = some (.inl 14) := by rw [eK3]; exact kS_ne p2_o (by omega)
  have p3_o1 : K3 (o + 1) = some (.inr (0, 6)) := by rw [eK3]; exact kS_ne p2_o1 (by omega)
  have p3_o2 : K3 (o + 2) = some (.inr (0, 15)) := by rw [eK3]; exact kS_ne q2 (by omega)
  have q3 : K3 (o + 3) = some (.inr (0, 15)) := by rw [eK3]; exact kS_eq
  obtain ⟨h11, eh11⟩ : ∃ q, q = sR h10 o 7 (some (o + 3)) := ⟨_, rfl⟩
  refine i_putF (h' := h11) (ty := .array (.int)) (sz := o + 4) X O (by decide +kernel) fl2_34r.1 (fun C T N h => by cases h; exact ⟨rfl, by decide +kernel⟩) (fun C T N h => by cases h; rfl) rfl rfl p3_o (by rw [fl2_34r.2, eh11]; exact Wr.r (x := some (o + 3))) ?_
  refine g_aload_n (n := 0) (sz := o + 4) X (by decide +kernel) 0 rfl ?_
  refine g_bipush (n := 15) (x := (15 : Int32)) (sz := o + 4) X (by decide +kernel) (by decide) ?_
  refine i_newa (aty := .int) (t := 0) (n := 15) (sz := o + 4) X O (by decide +kernel) (by decide) rfl ac_0 rfl (by decide) (by decide) (by decide) (by decide) (by decide) ?_
  obtain ⟨K4, eK4⟩ : ∃ q, q = kS K3 (o + 4) (.inr (0, 15)) := ⟨_, rfl⟩
  rw [← eK4]
  obtain ⟨h12, eh12⟩ : ∃ q, q = zr h11 (o + 4) := ⟨_, rfl⟩
  rw [← eh12]
  have p4_o : K4 (o) = some (.inl 14) := by rw [eK4]; exact kS_ne p3_o (by omega)
  have p4_o1 : K4 (o + 1) = some (.inr (0, 6)) := by rw [eK4]; exact kS_ne p3_o1 (by omega)
  have p4_o2 : K4 (o + 2) = some (.inr (0, 15)) := by rw [eK4]; exact kS_ne p3_o2 (by omega)
  have p4_o3 : K4 (o + 3) = some (.inr (0, 15)) := by rw [eK4]; exact kS_ne q3 (by omega)
  have q4 : K4 (o + 4) = some (.inr (0, 15)) := by rw [eK4]; exact kS_eq
  obtain ⟨h13, eh13⟩ : ∃ q, q = sR h12 o 8 (some (o + 4)) := ⟨_, rfl⟩
  refine i_putF (h' := h13) (ty := .array (.int)) (sz := o + 5) X O (by decide +kernel) fl2_37r.1 (fun C T N h => by cases h; exact ⟨rfl, by decide +kernel⟩) (fun C T N h => by cases h; rfl) rfl rfl p4_o (by rw [fl2_37r.2, eh13]; exact Wr.r (x := some (o + 4))) ?_
  refine g_aload_n (n := 0) (sz := o + 5) X (by decide +kernel) 0 rfl ?_
  refine g_bipush (n := 36) (x := (36 : Int32)) (sz := o + 5) X (by decide +kernel) (by decide) ?_
  refine i_newa (aty := .int) (t := 0) (n := 36) (sz := o + 5) X O (by decide +kernel) (by decide) rfl ac_0 rfl (by decide) (by decide) (by decide) (by decide) (by decide) ?_
  obtain ⟨K5, eK5⟩ : ∃ q, q = kS K4 (o + 5) (.inr (0, 36)) := ⟨_, rfl⟩
  rw [← eK5]
  obtain ⟨h14, eh14⟩ : ∃ q, q = zr h13 (o + 5) := ⟨_, rfl⟩
  rw [← eh14]
  have p5_o : K5 (o) = some (.inl 14) := by rw [eK5]; exact kS_ne p4_o (by omega)
  have p5_o1 : K5 (o + 1) = some (.inr (0, 6)) := by rw [eK5]; exact kS_ne p4_o1 (by omega)
  have p5_o2 : K5 (o + 2) = some (.inr (0, 15)) := by rw [eK5]; exact kS_ne p4_o2 (by omega)
  have p5_o3 : K5 (o + 3) = some (.inr (0, 15)) := by rw [eK5]; exact kS_ne p4_o3 (by omega)
  have p5_o4 : K5 (o + 4) = some (.inr (0, 15)) := by rw [eK5]; exact kS_ne q4 (by omega)
  have q5 : K5 (o + 5) = some (.inr (0, 36)) := by rw [eK5]; exact kS_eq
  obtain ⟨h15, eh15⟩ : ∃ q, q = sR h14 o 9 (some (o + 5)) := ⟨_, rfl⟩
  refine i_putF (h' := h15) (ty := .array (.int)) (sz := o + 6) X O (by decide +kernel) fl2_40r.1 (fun C T N h => by cases h; exact ⟨rfl, by decide +kernel⟩) (fun C T N h => by cases h; rfl) rfl rfl p5_o (by rw [fl2_40r.2, eh15]; exact Wr.r (x := some (o + 5))) ?_
  refine g_aload_n (n := 0) (sz := o + 6) X (by decide +kernel) 0 rfl ?_
  refine g_bipush (n := 12) (x := (12 : Int32)) (sz := o + 6) X (by decide +kernel) (by decide) ?_
  refine i_newa (aty := .int) (t := 0) (n := 12) (sz := o + 6) X O (by decide +kernel) (by decide) rfl ac_0 rfl (by decide) (by decide) (by decide) (by decide) (by decide) ?_
  obtain ⟨K6, eK6⟩ : ∃ q, q = kS K5 (o + 6) (.inr (0, 12)) := ⟨_, rfl⟩
  rw [← eK6]
  obtain ⟨h16, eh16⟩ : ∃ q, q = zr h15 (o + 6) := ⟨_, rfl⟩
  rw [← eh16]
  have p6_o : K6 (o) = some (.inl 14) := by rw [eK6]; exact kS_ne p5_o (by omega)
  have p6_o1 : K6 (o + 1) = some (.inr (0, 6)) := by rw [eK6]; exact kS_ne p5_o1 (by omega)
  have p6_o2 : K6 (o + 2) = some (.inr (0, 15)) := by rw [eK6]; exact kS_ne p5_o2 (by omega)
  have p6_o3 : K6 (o + 3) = some (.inr (0, 15)) := by rw [eK6]; exact kS_ne p5_o3 (by omega)
  have p6_o4 : K6 (o + 4) = some (.inr (0, 15)) := by rw [eK6]; exact kS_ne p5_o4 (by omega)
  have p6_o5 : K6 (o + 5) = some (.inr (0, 36)) := by rw [eK6]; exact kS_ne q5 (by omega)
  have q6 : K6 (o + 6) = some (.inr (0, 12)) := by rw [eK6]; exact kS_eq
  obtain ⟨h17, eh17⟩ : ∃ q, q = sR h16 o 10 (some (o + 6)) := ⟨_, rfl⟩
  refine i_putF (h' := h17) (ty := .array (.int)) (sz := o + 7) X O (by decide +kernel) fl2_43r.1 (fun C T N h => by cases h; exact ⟨rfl, by decide +kernel⟩) (fun C T N h => by cases h; rfl) rfl rfl p6_o (by rw [fl2_43r.2, eh17]; exact Wr.r (x := some (o + 6))) ?_
  refine g_aload_n (n := 0) (sz := o + 7) X (by decide +kernel) 0 rfl ?_
  refine g_bipush (n := 12) (x := (12 : Int32)) (sz := o + 7) X (by decide +kernel) (by decide) ?_
  refine i_newa (aty := .int) (t := 0) (n := 12) (sz := o + 7) X O (by decide +kernel) (by decide) rfl ac_0 rfl (by decide) (by decide) (by decide) (by decide) (by decide) ?_
  obtain ⟨K7, eK7⟩ : ∃ q, q = kS K6 (o + 7) (.inr (0, 12)) := ⟨_, rfl⟩
  rw [← eK7]
  obtain ⟨h18, eh18⟩ : ∃ q, q = zr h17 (o + 7) := ⟨_, rfl⟩
  rw [← eh18]
  have p7_o : K7 (o) = some (.inl 14) := by rw [eK7]; exact kS_ne p6_o (by omega)
  have p7_o1 : K7 (o + 1) = some (.inr (0, 6)) := by rw [eK7]; exact kS_ne p6_o1 (by omega)
  have p7_o2 : K7 (o + 2) = some (.inr (0, 15)) := by rw [eK7]; exact kS_ne p6_o2 (by omega)
  have p7_o3 : K7 (o + 3) = some (.inr (0, 15)) := by rw [eK7]; exact kS_ne p6_o3 (by omega)
  have p7_o4 : K7 (o + 4) = some (.inr (0, 15)) := by rw [eK7]; exact kS_ne p6_o4 (by omega)
  have p7_o5 : K7 (o + 5) = some (.inr (0, 36)) := by rw [eK7]; exact kS_ne p6_o5 (by omega)
  have p7_o6 : K7 (o + 6) = some (.inr (0, 12)) := by rw [eK7]; exact kS_ne q6 (by omega)
  have q7 : K7 (o + 7) = some (.inr (0, 12)) := by rw [eK7]; exact kS_eq
  obtain ⟨h19, eh19⟩ : ∃ q, q = sR h18 o 11 (some (o + 7)) := ⟨_, rfl⟩
  refine i_putF (h' := h19) (ty := .array (.int)) (sz := o + 8) X O (by decide +kernel) fl2_46r.1 (fun C T N h => by cases h; exact ⟨rfl, by decide +kernel⟩) (fun C T N h => by cases h; rfl) rfl rfl p7_o (by rw [fl2_46r.2, eh19]; exact Wr.r (x := some (o + 7))) ?_
  refine g_aload_n (n := 0) (sz := o + 8) X (by decide +kernel) 0 rfl ?_
  refine g_bipush (n := 12) (x := (12 : Int32)) (sz := o + 8) X (by decide +kernel) (by decide) ?_
  refine i_newa (aty := .int) (t := 0) (n := 12) (sz := o + 8) X O (by decide +kernel) (by decide) rfl ac_0 rfl (by decide) (by decide) (by decide) (by decide) (by decide) ?_
  obtain ⟨K8, eK8⟩ : ∃ q, q = kS K7 (o + 8) (.inr (0, 12)) := ⟨_, rfl⟩
  rw [← eK8]
  obtain ⟨h20, eh20⟩ : ∃ q, q = zr h19 (o + 8) := ⟨_, rfl⟩
  rw [← eh20]
  have p8_o : K8 (o) = some (.inl 14) := by rw [eK8]; exact kS_ne p7_o (by omega)
  have p8_o1 : K8 (o + 1) = some (.inr (0, 6)) := by rw [eK8]; exact kS_ne p7_o1 (by omega)
  have p8_o2 : K8 (o + 2) = some (.inr (0, 15)) := by rw [eK8]; exact kS_ne p7_o2 (by omega)
  have p8_o3 : K8 (o + 3) = some (.inr (0, 15)) := by rw [eK8]; exact kS_ne p7_o3 (by omega)
  have p8_o4 : K8 (o + 4) = some (.inr (0, 15)) := by rw [eK8]; exact kS_ne p7_o4 (by omega)
  have p8_o5 : K8 (o + 5) = some (.inr (0, 36)) := by rw [eK8]; exact kS_ne p7_o5 (by omega)
  have p8_o6 : K8 (o + 6) = some (.inr (0, 12)) := by rw [eK8]; exact kS_ne p7_o6 (by omega)
  have p8_o7 : K8 (o + 7) = some (.inr (0, 12)) := by rw [eK8]; exact kS_ne q7 (by omega)
  have q8 : K8 (o + 8) = some (.inr (0, 12)) := by rw [eK8]; exact kS_eq
  obtain ⟨h21, eh21⟩ : ∃ q, q = sR h20 o 12 (some (o + 8)) := ⟨_, rfl⟩
  refine i_putF (h' := h21) (ty := .array (.int)) (sz := o + 9) X O (by decide +kernel) fl2_49r.1 (fun C T N h => by cases h; exact ⟨rfl, by decide +kernel⟩) (fun C T N h => by cases h; rfl) rfl rfl p8_o (by rw [fl2_49r.2, eh21]; exact Wr.r (x := some (o + 8))) ?_
  refine g_aload_n (n := 0) (sz := o + 9) X (by decide +kernel) 0 rfl ?_
  refine g_bipush (n := 12) (x := (12 : Int32)) (sz := o + 9) X (by decide +kernel) (by decide) ?_
  refine i_newa (aty := .int) (t := 0) (n := 12) (sz := o + 9) X O (by decide +kernel) (by decide) rfl ac_0 rfl (by decide) (by decide) (by decide) (by decide) (by decide) ?_
  obtain ⟨K9, eK9⟩ : ∃ q, q = kS K8 (o + 9) (.inr (0, 12)) := ⟨_, rfl⟩
  rw [← eK9]
  obtain ⟨h22, eh22⟩ : ∃ q, q = zr h21 (o + 9) := ⟨_, rfl⟩
  rw [← eh22]
  have p9_o : K9 (o) = some (.inl 14) := by rw [eK9]; exact kS_ne p8_o (by omega)
  have p9_o1 : K9 (o + 1) = some (.inr (0, 6)) := by rw [eK9]; exact kS_ne p8_o1 (by omega)
  have p9_o2 : K9 (o + 2) = some (.inr (0, 15)) := by rw [eK9]; exact kS_ne p8_o2 (by omega)
  have p9_o3 : K9 (o + 3) = some (.inr (0, 15)) := by rw [eK9]; exact kS_ne p8_o3 (by omega)
  have p9_o4 : K9 (o + 4) = some (.inr (0, 15)) := by rw [eK9]; exact kS_ne p8_o4 (by omega)
  have p9_o5 : K9 (o + 5) = some (.inr (0, 36)) := by rw [eK9]; exact kS_ne p8_o5 (by omega)
  have p9_o6 : K9 (o + 6) = some (.inr (0, 12)) := by rw [eK9]; exact kS_ne p8_o6 (by omega)
  have p9_o7 : K9 (o + 7) = some (.inr (0, 12)) := by rw [eK9]; exact kS_ne p8_o7 (by omega)
  have p9_o8 : K9 (o + 8) = some (.inr (0, 12)) := by rw [eK9]; exact kS_ne q8 (by omega)
  have q9 : K9 (o + 9) = some (.inr (0, 12)) := by rw [eK9]; exact kS_eq
  obtain ⟨h23, eh23⟩ : ∃ q, q = sR h22 o 13 (some (o + 9)) := ⟨_, rfl⟩
  refine i_putF (h' := h23) (ty := .array (.int)) (sz := o + 10) X O (by decide +kernel) fl2_52r.1 (fun C T N h => by cases h; exact ⟨rfl, by decide +kernel⟩) (fun C T N h => by cases h; rfl) rfl rfl p9_o (by rw [fl2_52r.2, eh23]; exact Wr.r (x := some (o + 9))) ?_
  refine g_aload_n (n := 0) (sz := o + 10) X (by decide +kernel) 0 rfl ?_
  refine g_bipush (n := 6) (x := (6 : Int32)) (sz := o + 10) X (by decide +kernel) (by decide) ?_
  refine i_newa (aty := .int) (t := 0) (n := 6) (sz := o + 10) X O (by decide +kernel) (by decide) rfl ac_0 rfl (by decide) (by decide) (by decide) (by decide) (by decide) ?_
  obtain ⟨K10, eK10⟩ : ∃ q, q = kS K9 (o + 10) (.inr (0, 6)) := ⟨_, rfl⟩
  rw [← eK10]
  obtain ⟨h24, eh24⟩ : ∃ q, q = zr h23 (o + 10) := ⟨_, rfl⟩
  rw [← eh24]
  have p10_o : K10 (o) = some (.inl 14) := by rw [eK10]; exact kS_ne p9_o (by omega)
  have p10_o1 : K10 (o + 1) = some (.inr (0, 6)) := by rw [eK10]; exact kS_ne p9_o1 (by omega)
  have p10_o2 : K10 (o + 2) = some (.inr (0, 15)) := by rw [eK10]; exact kS_ne p9_o2 (by omega)
  have p10_o3 : K10 (o + 3) = some (.inr (0, 15)) := by rw [eK10]; exact kS_ne p9_o3 (by omega)
  have p10_o4 : K10 (o + 4) = some (.inr (0, 15)) := by rw [eK10]; exact kS_ne p9_o4 (by omega)
  have p10_o5 : K10 (o + 5) = some (.inr (0, 36)) := by rw [eK10]; exact kS_ne p9_o5 (by omega)
  have p10_o6 : K10 (o + 6) = some (.inr (0, 12)) := by rw [eK10]; exact kS_ne p9_o6 (by omega)
  have p10_o7 : K10 (o + 7) = some (.inr (0, 12)) := by rw [eK10]; exact kS_ne p9_o7 (by omega)
  have p10_o8 : K10 (o + 8) = some (.inr (0, 12)) := by rw [eK10]; exact kS_ne p9_o8 (by omega)
  have p10_o9 : K10 (o + 9) = some (.inr (0, 12)) := by rw [eK10]; exact kS_ne q9 (by omega)
  have q10 : K10 (o + 10) = some (.inr (0, 6)) := by rw [eK10]; exact kS_eq
  obtain ⟨h25, eh25⟩ : ∃ q, q = sR h24 o 14 (some (o + 10)) := ⟨_, rfl⟩
  refine i_putF (h' := h25) (ty := .array (.int)) (sz := o + 11) X O (by decide +kernel) fl2_55r.1 (fun C T N h => by cases h; exact ⟨rfl, by decide +kernel⟩) (fun C T N h => by cases h; rfl) rfl rfl p10_o (by rw [fl2_55r.2, eh25]; exact Wr.r (x := some (o + 10))) ?_
  refine g_aload_n (n := 0) (sz := o + 11) X (by decide +kernel) 0 rfl ?_
  refine g_bipush (n := 6) (x := (6 : Int32)) (sz := o + 11) X (by decide +kernel) (by decide) ?_
  refine i_newa (aty := .int) (t := 0) (n := 6) (sz := o + 11) X O (by decide +kernel) (by decide) rfl ac_0 rfl (by decide) (by decide) (by decide) (by decide) (by decide) ?_
  obtain ⟨K11, eK11⟩ : ∃ q, q = kS K10 (o + 11) (.inr (0, 6)) := ⟨_, rfl⟩
  rw [← eK11]
  obtain ⟨h26, eh26⟩ : ∃ q, q = zr h25 (o + 11) := ⟨_, rfl⟩
  rw [← eh26]
  have p11_o : K11 (o) = some (.inl 14) := by rw [eK11]; exact kS_ne p10_o (by omega)
  have p11_o1 : K11 (o + 1) = some (.inr (0, 6)) := by rw [eK11]; exact kS_ne p10_o1 (by omega)
  have p11_o2 : K11 (o + 2) = some (.inr (0, 15)) := by rw [eK11]; exact kS_ne p10_o2 (by omega)
  have p11_o3 : K11 (o + 3) = some (.inr (0, 15)) := by rw [eK11]; exact kS_ne p10_o3 (by omega)
  have p11_o4 : K11 (o + 4) = some (.inr (0, 15)) := by rw [eK11]; exact kS_ne p10_o4 (by omega)
  have p11_o5 : K11 (o + 5) = some (.inr (0, 36)) := by rw [eK11]; exact kS_ne p10_o5 (by omega)
  have p11_o6 : K11 (o + 6) = some (.inr (0, 12)) := by rw [eK11]; exact kS_ne p10_o6 (by omega)
  have p11_o7 : K11 (o + 7) = some (.inr (0, 12)) := by rw [eK11]; exact kS_ne p10_o7 (by omega)
  have p11_o8 : K11 (o + 8) = some (.inr (0, 12)) := by rw [eK11]; exact kS_ne p10_o8 (by omega)
  have p11_o9 : K11 (o + 9) = some (.inr (0, 12)) := by rw [eK11]; exact kS_ne p10_o9 (by omega)
  have p11_o10 : K11 (o + 10) = some (.inr (0, 6)) := by rw [eK11]; exact kS_ne q10 (by omega)
  have q11 : K11 (o + 11) = some (.inr (0, 6)) := by rw [eK11]; exact kS_eq
  obtain ⟨h27, eh27⟩ : ∃ q, q = sR h26 o 15 (some (o + 11)) := ⟨_, rfl⟩
  refine i_putF (h' := h27) (ty := .array (.int)) (sz := o + 12) X O (by decide +kernel) fl2_58r.1 (fun C T N h => by cases h; exact ⟨rfl, by decide +kernel⟩) (fun C T N h => by cases h; rfl) rfl rfl p11_o (by rw [fl2_58r.2, eh27]; exact Wr.r (x := some (o + 11))) ?_
  refine g_aload_n (n := 0) (sz := o + 12) X (by decide +kernel) 0 rfl ?_
  refine g_bipush (n := 6) (x := (6 : Int32)) (sz := o + 12) X (by decide +kernel) (by decide) ?_
  refine i_newa (aty := .int) (t := 0) (n := 6) (sz := o + 12) X O (by decide +kernel) (by decide) rfl ac_0 rfl (by decide) (by decide) (by decide) (by decide) (by decide) ?_
  obtain ⟨K12, eK12⟩ : ∃ q, q = kS K11 (o + 12) (.inr (0, 6)) := ⟨_, rfl⟩
  rw [← eK12]
  obtain ⟨h28, eh28⟩ : ∃ q, q = zr h27 (o + 12) := ⟨_, rfl⟩
  rw [← eh28]
  have p12_o : K12 (o) = some (.inl 14) := by rw [eK12]; exact kS_ne p11_o (by omega)
  have p12_o1 : K12 (o + 1) = some (.inr (0, 6)) := by rw [eK12]; exact kS_ne p11_o1 (by omega)
  have p12_o2 : K12 (o + 2) = some (.inr (0, 15)) := by rw [eK12]; exact kS_ne p11_o2 (by omega)
  have p12_o3 : K12 (o + 3) = some (.inr (0, 15)) := by rw [eK12]; exact kS_ne p11_o3 (by omega)
  have p12_o4 : K12 (o + 4) = some (.inr (0, 15)) := by rw [eK12]; exact kS_ne p11_o4 (by omega)
  have p12_o5 : K12 (o + 5) = some (.inr (0, 36)) := by rw [eK12]; exact kS_ne p11_o5 (by omega)
  have p12_o6 : K12 (o + 6) = some (.inr (0, 12)) := by rw [eK12]; exact kS_ne p11_o6 (by omega)
  have p12_o7 : K12 (o + 7) = some (.inr (0, 12)) := by rw [eK12]; exact kS_ne p11_o7 (by omega)
  have p12_o8 : K12 (o + 8) = some (.inr (0, 12)) := by rw [eK12]; exact kS_ne p11_o8 (by omega)
  have p12_o9 : K12 (o + 9) = some (.inr (0, 12)) := by rw [eK12]; exact kS_ne p11_o9 (by omega)
  have p12_o10 : K12 (o + 10) = some (.inr (0, 6)) := by rw [eK12]; exact kS_ne p11_o10 (by omega)
  have p12_o11 : K12 (o + 11) = some (.inr (0, 6)) := by rw [eK12]; exact kS_ne q11 (by omega)
  have q12 : K12 (o + 12) = some (.inr (0, 6)) := by rw [eK12]; exact kS_eq
  obtain ⟨h29, eh29⟩ : ∃ q, q = sR h28 o 16 (some (o + 12)) := ⟨_, rfl⟩
  refine i_putF (h' := h29) (ty := .array (.int)) (sz := o + 13) X O (by decide +kernel) fl2_61r.1 (fun C T N h => by cases h; exact ⟨rfl, by decide +kernel⟩) (fun C T N h => by cases h; rfl) rfl rfl p12_o (by rw [fl2_61r.2, eh29]; exact Wr.r (x := some (o + 12))) ?_
  refine i_fin (ci := 2) (sz := o + 13) X p12_o rfl rfl ?_ ?_
  · intro j hj
    subst eh29
    subst eh28
    subst eK12
    subst eh27
    subst eh26
    subst eK11
    subst eh25
    subst eh24
    subst eK10
    subst eh23
    subst eh22
    subst eK9
    subst eh21
    subst eh20
    subst eK8
    subst eh19
    subst eh18
    subst eK7
    subst eh17
    subst eh16
    subst eK6
    subst eh15
    subst eh14
    subst eK5
    subst eh13
    subst eh12
    subst eK4
    subst eh11
    subst eh10
    subst eK3
    subst eh9
    subst eh8
    subst eK2
    subst eh7
    subst eh6
    subst eK1
    subst eh5
    subst eh4
    subst eh3
    subst eh2
    subst eh1
    exact hall2 K h o j hj
  · subst eh29
    subst eh28
    subst eK12
    subst eh27
    subst eh26
    subst eK11
    subst eh25
    subst eh24
    subst eK10
    subst eh23
    subst eh22
    subst eK9
    subst eh21
    subst eh20
    subst eK8
    subst eh19
    subst eh18
    subst eK7
    subst eh17
    subst eh16
    subst eK6
    subst eh15
    subst eh14
    subst eK5
    subst eh13
    subst eh12
    subst eK4
    subst eh11
    subst eh10
    subst eK3
    subst eh9
    subst eh8
    subst eK2
    subst eh7
    subst eh6
    subst eK1
    subst eh5
    subst eh4
    subst eh3
    subst eh2
    subst eh1
    exact i_ret (sz := o + 13) X O (by decide +kernel) (by decide) (by decide)
def kI3 (K : Ly) (o : Nat) : Ly := (kS (kS (kS (kS K (o + 1) (.inr (0, 40))) (o + 2) (.inr (0, 40))) (o + 3) (.inr (0, 40))) o (.inl 3))
def hI3 (h : Hp) (o : Nat) : Hp := (sR (zr (sR (zr (sR (zr (sI h o 0 (0 : Int32)) (o + 1)) o 1 (some (o + 1))) (o + 2)) o 2 (some (o + 2))) (o + 3)) o 3 (some (o + 3)))
theorem kI3_o {K : Ly} {o : Nat} : kI3 K o o = some (.inl 3) := by simp [kI3, kS]
theorem kI3_old {K : Ly} {o a : Nat} (ha : a < o) : kI3 K o a = K a := by
  unfold kI3
  repeat (first | rw [kS, if_neg (by omega)] | rfl)
set_option maxHeartbeats 4000000 in
set_option maxRecDepth 100000 in
theorem st3_1 (h : Hp) (o : Nat) : (hI3 h o).2.2 o 1 = some (o + 1) := by
  simp only [hI3, sI, sL, sR, zr]
  simp
set_option maxHeartbeats 4000000 in
set_option maxRecDepth 100000 in
theorem st3_2 (h : Hp) (o : Nat) : (hI3 h o).2.2 o 2 = some (o + 2) := by
  simp only [hI3, sI, sL, sR, zr]
  simp
set_option maxHeartbeats 4000000 in
set_option maxRecDepth 100000 in
theorem st3_3 (h : Hp) (o : Nat) : (hI3 h o).2.2 o 3 = some (o + 3) := by
  simp only [hI3, sI, sL, sR, zr]
  simp
theorem hall3 (K : Ly) (h : Hp) (o j : Nat) (hj : j < 4) : tV (fc 15 j) (hI3 h o) o j = tV (fc 3 j) (hI3 h o) o j := by
  by_cases hs : fc 15 j = fc 3 j
  · rw [hs]
  · have hm : j = 1 ∨ j = 2 ∨ j = 3 := (show ∀ j, j < 4 → ¬ fc 15 j = fc 3 j → (j = 1 ∨ j = 2 ∨ j = 3) by decide +kernel) j hj hs
    rcases hm with rfl | rfl | rfl
    · show va_rf ((hI3 h o).2.2 o 1) = .ref (o + 1)
      rw [st3_1]; rfl
    · show va_rf ((hI3 h o).2.2 o 2) = .ref (o + 2)
      rw [st3_2]; rfl
    · show va_rf ((hI3 h o).2.2 o 3) = .ref (o + 3)
      rw [st3_3]; rfl
set_option maxHeartbeats 4000000 in
set_option maxRecDepth 100000 in
theorem ci3 {sp : Sp} {K : Ly} {h : Hp} {o : Nat} (hk : K o = some (.inl 15)) : ConI sp y3_init prog_9_method_1_code 1 1 3 120 o (o + 1) K h (o + 4) (kI3 K o) (hI3 h o) := by
  refine ConI.of (by decide) rfl (by decide) (fun Γ X O Q => ?_)
  refine g_aload_n (n := 0) (sz := o + 1) X (by decide +kernel) 0 rfl ?_
  refine i_obj (idx := 3) (sz := o + 1) X (by decide +kernel) (in_c1 131 rfl rfl) ob_i ob_c (by decide) (Nat.le_of_ble_eq_true rfl) ?_
  refine g_aload_n (n := 0) (sz := o + 1) X (by decide +kernel) 0 rfl ?_
  refine g_iconst (n := 0) (x := (0 : Int32)) (sz := o + 1) X (by decide +kernel) (by decide) ?_
  obtain ⟨h1, eh1⟩ : ∃ q, q = sI h o 0 (0 : Int32) := ⟨_, rfl⟩
  refine g_putf (h' := h1) (ty := .int) (sz := o + 1) X (by decide +kernel) fl3_9r.1 (fun C T N h => by cases h; exact ⟨rfl, by decide +kernel⟩) rfl rfl hk (by rw [fl3_9r.2, eh1]; exact Wr.i) ?_
  refine g_aload_n (n := 0) (sz := o + 1) X (by decide +kernel) 0 rfl ?_
  refine g_bipush (n := 40) (x := (40 : Int32)) (sz := o + 1) X (by decide +kernel) (by decide) ?_
  refine i_newa (aty := .int) (t := 0) (n := 40) (sz := o + 1) X O (by decide +kernel) (by decide) rfl ac_0 rfl (by decide) (by decide) (by decide) (by decide) (by decide) ?_
  obtain ⟨K1, eK1⟩ : ∃ q, q = kS K (o + 1) (.inr (0, 40)) := ⟨_, rfl⟩
  rw [← eK1]
  obtain ⟨h2, eh2⟩ : ∃ q, q = zr h1 (o + 1) := ⟨_, rfl⟩
  rw [← eh2]
  have p1_o : K1 (o) = some (.inl 15) := by rw [eK1]; exact kS_ne hk (by omega)
  have q1 : K1 (o + 1) = some (.inr (0, 40)) := by rw [eK1]; exact kS_eq
  obtain ⟨h3, eh3⟩ : ∃ q, q = sR h2 o 1 (some (o + 1)) := ⟨_, rfl⟩
  refine i_putF (h' := h3) (ty := .array (.int)) (sz := o + 2) X O (by decide +kernel) fl3_15r.1 (fun C T N h => by cases h; exact ⟨rfl, by decide +kernel⟩) (fun C T N h => by cases h; rfl) rfl rfl p1_o (by rw [fl3_15r.2, eh3]; exact Wr.r (x := some (o + 1))) ?_
  refine g_aload_n (n := 0) (sz := o + 2) X (by decide +kernel) 0 rfl ?_
  refine g_bipush (n := 40) (x := (40 : Int32)) (sz := o + 2) X (by decide +kernel) (by decide) ?_
  refine i_newa (aty := .int) (t := 0) (n := 40) (sz := o + 2) X O (by decide +kernel) (by decide) rfl ac_0 rfl (by decide) (by decide) (by decide) (by decide) (by decide) ?_
  obtain ⟨K2, eK2⟩ : ∃ q, q = kS K1 (o + 2) (.inr (0, 40)) := ⟨_, rfl⟩
  rw [← eK2]
  obtain ⟨h4, eh4⟩ : ∃ q, q = zr h3 (o + 2) := ⟨_, rfl⟩
  rw [← eh4]
  have p2_o : K2 (o) = some (.inl 15) := by rw [eK2]; exact kS_ne p1_o (by omega)
  have p2_o1 : K2 (o + 1) = some (.inr (0, 40)) := by rw [eK2]; exact kS_ne q1 (by omega)
  have q2 : K2 (o + 2) = some (.inr (0, 40)) := by rw [eK2]; exact kS_eq
  obtain ⟨h5, eh5⟩ : ∃ q, q = sR h4 o 2 (some (o + 2)) := ⟨_, rfl⟩
  refine i_putF (h' := h5) (ty := .array (.int)) (sz := o + 3) X O (by decide +kernel) fl3_19r.1 (fun C T N h => by cases h; exact ⟨rfl, by decide +kernel⟩) (fun C T N h => by cases h; rfl) rfl rfl p2_o (by rw [fl3_19r.2, eh5]; exact Wr.r (x := some (o + 2))) ?_
  refine g_aload_n (n := 0) (sz := o + 3) X (by decide +kernel) 0 rfl ?_
  refine g_bipush (n := 40) (x := (40 : Int32)) (sz := o + 3) X (by decide +kernel) (by decide) ?_
  refine i_newa (aty := .int) (t := 0) (n := 40) (sz := o + 3) X O (by decide +kernel) (by decide) rfl ac_0 rfl (by decide) (by decide) (by decide) (by decide) (by decide) ?_
  obtain ⟨K3, eK3⟩ : ∃ q, q = kS K2 (o + 3) (.inr (0, 40)) := ⟨_, rfl⟩
  rw [← eK3]
  obtain ⟨h6, eh6⟩ : ∃ q, q = zr h5 (o + 3) := ⟨_, rfl⟩
  rw [← eh6]
  have p3_o : K3 (o) = some (.inl 15) := by rw [eK3]; exact kS_ne p2_o (by omega)
  have p3_o1 : K3 (o + 1) = some (.inr (0, 40)) := by rw [eK3]; exact kS_ne p2_o1 (by omega)
  have p3_o2 : K3 (o + 2) = some (.inr (0, 40)) := by rw [eK3]; exact kS_ne q2 (by omega)
  have q3 : K3 (o + 3) = some (.inr (0, 40)) := by rw [eK3]; exact kS_eq
  obtain ⟨h7, eh7⟩ : ∃ q, q = sR h6 o 3 (some (o + 3)) := ⟨_, rfl⟩
  refine i_putF (h' := h7) (ty := .array (.int)) (sz := o + 4) X O (by decide +kernel) fl3_22r.1 (fun C T N h => by cases h; exact ⟨rfl, by decide +kernel⟩) (fun C T N h => by cases h; rfl) rfl rfl p3_o (by rw [fl3_22r.2, eh7]; exact Wr.r (x := some (o + 3))) ?_
  refine i_fin (ci := 3) (sz := o + 4) X p3_o rfl rfl ?_ ?_
  · intro j hj
    subst eh7
    subst eh6
    subst eK3
    subst eh5
    subst eh4
    subst eK2
    subst eh3
    subst eh2
    subst eK1
    subst eh1
    exact hall3 K h o j hj
  · subst eh7
    subst eh6
    subst eK3
    subst eh5
    subst eh4
    subst eK2
    subst eh3
    subst eh2
    subst eK1
    subst eh1
    exact i_ret (sz := o + 4) X O (by decide +kernel) (by decide) (by decide)
def kI4 (K : Ly) (o : Nat) : Ly := (kS (kS (kS K (o + 1) (.inr (0, 8))) (o + 2) (.inr (0, 8))) o (.inl 4))
def hI4 (h : Hp) (o : Nat) : Hp := (sR (zr (sR (zr (sI h o 0 (0 : Int32)) (o + 1)) o 1 (some (o + 1))) (o + 2)) o 2 (some (o + 2)))
theorem kI4_o {K : Ly} {o : Nat} : kI4 K o o = some (.inl 4) := by simp [kI4, kS]
theorem kI4_old {K : Ly} {o a : Nat} (ha : a < o) : kI4 K o a = K a := by
  unfold kI4
  repeat (first | rw [kS, if_neg (by omega)] | rfl)
set_option maxHeartbeats 4000000 in
set_option maxRecDepth 100000 in
theorem st4_1 (h : Hp) (o : Nat) : (hI4 h o).2.2 o 1 = some (o + 1) := by
  simp only [hI4, sI, sL, sR, zr]
  simp
set_option maxHeartbeats 4000000 in
set_option maxRecDepth 100000 in
theorem st4_2 (h : Hp) (o : Nat) : (hI4 h o).2.2 o 2 = some (o + 2) := by
  simp only [hI4, sI, sL, sR, zr]
  simp
theorem hall4 (K : Ly) (h : Hp) (o j : Nat) (hj : j < 3) : tV (fc 16 j) (hI4 h o) o j = tV (fc 4 j) (hI4 h o) o j := by
  by_cases hs : fc 16 j = fc 4 j
  · rw [hs]
  · have hm : j = 1 ∨ j = 2 := (show ∀ j, j < 3 → ¬ fc 16 j = fc 4 j → (j = 1 ∨ j = 2) by decide +kernel) j hj hs
    rcases hm with rfl | rfl
    · show va_rf ((hI4 h o).2.2 o 1) = .ref (o + 1)
      rw [st4_1]; rfl
    · show va_rf ((hI4 h o).2.2 o 2) = .ref (o + 2)
      rw [st4_2]; rfl
set_option maxHeartbeats 4000000 in
set_option maxRecDepth 100000 in
theorem ci4 {sp : Sp} {K : Ly} {h : Hp} {o : Nat} (hk : K o = some (.inl 16)) : ConI sp y4_init prog_5_method_1_code 1 1 2 16 o (o + 1) K h (o + 3) (kI4 K o) (hI4 h o) := by
  refine ConI.of (by decide) rfl (by decide) (fun Γ X O Q => ?_)
  refine g_aload_n (n := 0) (sz := o + 1) X (by decide +kernel) 0 rfl ?_
  refine i_obj (idx := 3) (sz := o + 1) X (by decide +kernel) (in_c1 160 rfl rfl) ob_i ob_c (by decide) (Nat.le_of_ble_eq_true rfl) ?_
  refine g_aload_n (n := 0) (sz := o + 1) X (by decide +kernel) 0 rfl ?_
  refine g_iconst (n := 0) (x := (0 : Int32)) (sz := o + 1) X (by decide +kernel) (by decide) ?_
  obtain ⟨h1, eh1⟩ : ∃ q, q = sI h o 0 (0 : Int32) := ⟨_, rfl⟩
  refine g_putf (h' := h1) (ty := .int) (sz := o + 1) X (by decide +kernel) fl4_9r.1 (fun C T N h => by cases h; exact ⟨rfl, by decide +kernel⟩) rfl rfl hk (by rw [fl4_9r.2, eh1]; exact Wr.i) ?_
  refine g_aload_n (n := 0) (sz := o + 1) X (by decide +kernel) 0 rfl ?_
  refine g_bipush (n := 8) (x := (8 : Int32)) (sz := o + 1) X (by decide +kernel) (by decide) ?_
  refine i_newa (aty := .int) (t := 0) (n := 8) (sz := o + 1) X O (by decide +kernel) (by decide) rfl ac_0 rfl (by decide) (by decide) (by decide) (by decide) (by decide) ?_
  obtain ⟨K1, eK1⟩ : ∃ q, q = kS K (o + 1) (.inr (0, 8)) := ⟨_, rfl⟩
  rw [← eK1]
  obtain ⟨h2, eh2⟩ : ∃ q, q = zr h1 (o + 1) := ⟨_, rfl⟩
  rw [← eh2]
  have p1_o : K1 (o) = some (.inl 16) := by rw [eK1]; exact kS_ne hk (by omega)
  have q1 : K1 (o + 1) = some (.inr (0, 8)) := by rw [eK1]; exact kS_eq
  obtain ⟨h3, eh3⟩ : ∃ q, q = sR h2 o 1 (some (o + 1)) := ⟨_, rfl⟩
  refine i_putF (h' := h3) (ty := .array (.int)) (sz := o + 2) X O (by decide +kernel) fl4_15r.1 (fun C T N h => by cases h; exact ⟨rfl, by decide +kernel⟩) (fun C T N h => by cases h; rfl) rfl rfl p1_o (by rw [fl4_15r.2, eh3]; exact Wr.r (x := some (o + 1))) ?_
  refine g_aload_n (n := 0) (sz := o + 2) X (by decide +kernel) 0 rfl ?_
  refine g_bipush (n := 8) (x := (8 : Int32)) (sz := o + 2) X (by decide +kernel) (by decide) ?_
  refine i_newa (aty := .int) (t := 0) (n := 8) (sz := o + 2) X O (by decide +kernel) (by decide) rfl ac_0 rfl (by decide) (by decide) (by decide) (by decide) (by decide) ?_
  obtain ⟨K2, eK2⟩ : ∃ q, q = kS K1 (o + 2) (.inr (0, 8)) := ⟨_, rfl⟩
  rw [← eK2]
  obtain ⟨h4, eh4⟩ : ∃ q, q = zr h3 (o + 2) := ⟨_, rfl⟩
  rw [← eh4]
  have p2_o : K2 (o) = some (.inl 16) := by rw [eK2]; exact kS_ne p1_o (by omega)
  have p2_o1 : K2 (o + 1) = some (.inr (0, 8)) := by rw [eK2]; exact kS_ne q1 (by omega)
  have q2 : K2 (o + 2) = some (.inr (0, 8)) := by rw [eK2]; exact kS_eq
  obtain ⟨h5, eh5⟩ : ∃ q, q = sR h4 o 2 (some (o + 2)) := ⟨_, rfl⟩
  refine i_putF (h' := h5) (ty := .array (.int)) (sz := o + 3) X O (by decide +kernel) fl4_19r.1 (fun C T N h => by cases h; exact ⟨rfl, by decide +kernel⟩) (fun C T N h => by cases h; rfl) rfl rfl p2_o (by rw [fl4_19r.2, eh5]; exact Wr.r (x := some (o + 2))) ?_
  refine i_fin (ci := 4) (sz := o + 3) X p2_o rfl rfl ?_ ?_
  · intro j hj
    subst eh5
    subst eh4
    subst eK2
    subst eh3
    subst eh2
    subst eK1
    subst eh1
    exact hall4 K h o j hj
  · subst eh5
    subst eh4
    subst eK2
    subst eh3
    subst eh2
    subst eK1
    subst eh1
    exact i_ret (sz := o + 3) X O (by decide +kernel) (by decide) (by decide)
def kI6 (K : Ly) (o : Nat) : Ly := (kS K o (.inl 6))
def hI6 (h : Hp) (o : Nat) : Hp := (sI (sI (sI (sI (sI (sL (sL (sI (sI (sI (sI h o 0 (0 : Int32)) o 1 (0 : Int32)) o 2 (0 : Int32)) o 3 (0 : Int32)) o 4 (0 : Int64)) o 5 (0 : Int64)) o 6 (0 : Int32)) o 7 (-1 : Int32)) o 8 (0 : Int32)) o 9 (0 : Int32)) o 10 (0 : Int32))
theorem kI6_o {K : Ly} {o : Nat} : kI6 K o o = some (.inl 6) := by simp [kI6, kS]
theorem kI6_old {K : Ly} {o a : Nat} (ha : a < o) : kI6 K o a = K a := by
  unfold kI6
  repeat (first | rw [kS, if_neg (by omega)] | rfl)
theorem hall6 (K : Ly) (h : Hp) (o j : Nat) (hj : j < 11) : tV (fc 18 j) (hI6 h o) o j = tV (fc 6 j) (hI6 h o) o j := by
  exact (show ∀ j, j < 11 → fc 18 j = fc 6 j by decide +kernel) j hj ▸ rfl
set_option maxHeartbeats 4000000 in
set_option maxRecDepth 100000 in
theorem ci6 {sp : Sp} {K : Ly} {h : Hp} {o : Nat} (hk : K o = some (.inl 18)) : ConI sp y6_init prog_3_method_1_code 1 1 0 0 o (o + 1) K h (o + 1) (kI6 K o) (hI6 h o) := by
  refine ConI.of (by decide) rfl (by decide) (fun Γ X O Q => ?_)
  refine g_aload_n (n := 0) (sz := o + 1) X (by decide +kernel) 0 rfl ?_
  refine i_obj (idx := 3) (sz := o + 1) X (by decide +kernel) (in_c2 115 rfl rfl) ob_i ob_c (by decide) (Nat.le_of_ble_eq_true rfl) ?_
  refine g_aload_n (n := 0) (sz := o + 1) X (by decide +kernel) 0 rfl ?_
  refine g_iconst (n := 0) (x := (0 : Int32)) (sz := o + 1) X (by decide +kernel) (by decide) ?_
  obtain ⟨h1, eh1⟩ : ∃ q, q = sI h o 0 (0 : Int32) := ⟨_, rfl⟩
  refine g_putf (h' := h1) (ty := .int) (sz := o + 1) X (by decide +kernel) fl6_9r.1 (fun C T N h => by cases h; exact ⟨rfl, by decide +kernel⟩) rfl rfl hk (by rw [fl6_9r.2, eh1]; exact Wr.i) ?_
  refine g_aload_n (n := 0) (sz := o + 1) X (by decide +kernel) 0 rfl ?_
  refine g_iconst (n := 0) (x := (0 : Int32)) (sz := o + 1) X (by decide +kernel) (by decide) ?_
  obtain ⟨h2, eh2⟩ : ∃ q, q = sI h1 o 1 (0 : Int32) := ⟨_, rfl⟩
  refine g_putf (h' := h2) (ty := .int) (sz := o + 1) X (by decide +kernel) fl6_15r.1 (fun C T N h => by cases h; exact ⟨rfl, by decide +kernel⟩) rfl rfl hk (by rw [fl6_15r.2, eh2]; exact Wr.i) ?_
  refine g_aload_n (n := 0) (sz := o + 1) X (by decide +kernel) 0 rfl ?_
  refine g_iconst (n := 0) (x := (0 : Int32)) (sz := o + 1) X (by decide +kernel) (by decide) ?_
  obtain ⟨h3, eh3⟩ : ∃ q, q = sI h2 o 2 (0 : Int32) := ⟨_, rfl⟩
  refine g_putf (h' := h3) (ty := .int) (sz := o + 1) X (by decide +kernel) fl6_18r.1 (fun C T N h => by cases h; exact ⟨rfl, by decide +kernel⟩) rfl rfl hk (by rw [fl6_18r.2, eh3]; exact Wr.i) ?_
  refine g_aload_n (n := 0) (sz := o + 1) X (by decide +kernel) 0 rfl ?_
  refine g_iconst (n := 0) (x := (0 : Int32)) (sz := o + 1) X (by decide +kernel) (by decide) ?_
  obtain ⟨h4, eh4⟩ : ∃ q, q = sI h3 o 3 (0 : Int32) := ⟨_, rfl⟩
  refine g_putf (h' := h4) (ty := .int) (sz := o + 1) X (by decide +kernel) fl6_21r.1 (fun C T N h => by cases h; exact ⟨rfl, by decide +kernel⟩) rfl rfl hk (by rw [fl6_21r.2, eh4]; exact Wr.i) ?_
  refine g_aload_n (n := 0) (sz := o + 1) X (by decide +kernel) 0 rfl ?_
  refine g_lconst (n := 0) (x := (0 : Int64)) (sz := o + 1) X (by decide +kernel) (by decide) ?_
  obtain ⟨h5, eh5⟩ : ∃ q, q = sL h4 o 4 (0 : Int64) := ⟨_, rfl⟩
  refine g_putf (h' := h5) (ty := .long) (sz := o + 1) X (by decide +kernel) fl6_24r.1 (fun C T N h => by cases h; exact ⟨rfl, by decide +kernel⟩) rfl rfl hk (by rw [fl6_24r.2, eh5]; exact Wr.l) ?_
  refine g_aload_n (n := 0) (sz := o + 1) X (by decide +kernel) 0 rfl ?_
  refine g_lconst (n := 0) (x := (0 : Int64)) (sz := o + 1) X (by decide +kernel) (by decide) ?_
  obtain ⟨h6, eh6⟩ : ∃ q, q = sL h5 o 5 (0 : Int64) := ⟨_, rfl⟩
  refine g_putf (h' := h6) (ty := .long) (sz := o + 1) X (by decide +kernel) fl6_28r.1 (fun C T N h => by cases h; exact ⟨rfl, by decide +kernel⟩) rfl rfl hk (by rw [fl6_28r.2, eh6]; exact Wr.l) ?_
  refine g_aload_n (n := 0) (sz := o + 1) X (by decide +kernel) 0 rfl ?_
  refine g_iconst (n := 0) (x := (0 : Int32)) (sz := o + 1) X (by decide +kernel) (by decide) ?_
  obtain ⟨h7, eh7⟩ : ∃ q, q = sI h6 o 6 (0 : Int32) := ⟨_, rfl⟩
  refine g_putf (h' := h7) (ty := .int) (sz := o + 1) X (by decide +kernel) fl6_31r.1 (fun C T N h => by cases h; exact ⟨rfl, by decide +kernel⟩) rfl rfl hk (by rw [fl6_31r.2, eh7]; exact Wr.i) ?_
  refine g_aload_n (n := 0) (sz := o + 1) X (by decide +kernel) 0 rfl ?_
  refine g_iconst (n := -1) (x := (-1 : Int32)) (sz := o + 1) X (by decide +kernel) (by decide) ?_
  obtain ⟨h8, eh8⟩ : ∃ q, q = sI h7 o 7 (-1 : Int32) := ⟨_, rfl⟩
  refine g_putf (h' := h8) (ty := .int) (sz := o + 1) X (by decide +kernel) fl6_34r.1 (fun C T N h => by cases h; exact ⟨rfl, by decide +kernel⟩) rfl rfl hk (by rw [fl6_34r.2, eh8]; exact Wr.i) ?_
  refine g_aload_n (n := 0) (sz := o + 1) X (by decide +kernel) 0 rfl ?_
  refine g_iconst (n := 0) (x := (0 : Int32)) (sz := o + 1) X (by decide +kernel) (by decide) ?_
  obtain ⟨h9, eh9⟩ : ∃ q, q = sI h8 o 8 (0 : Int32) := ⟨_, rfl⟩
  refine g_putf (h' := h9) (ty := .int) (sz := o + 1) X (by decide +kernel) fl6_37r.1 (fun C T N h => by cases h; exact ⟨rfl, by decide +kernel⟩) rfl rfl hk (by rw [fl6_37r.2, eh9]; exact Wr.i) ?_
  refine g_aload_n (n := 0) (sz := o + 1) X (by decide +kernel) 0 rfl ?_
  refine g_iconst (n := 0) (x := (0 : Int32)) (sz := o + 1) X (by decide +kernel) (by decide) ?_
  obtain ⟨h10, eh10⟩ : ∃ q, q = sI h9 o 9 (0 : Int32) := ⟨_, rfl⟩
  refine g_putf (h' := h10) (ty := .int) (sz := o + 1) X (by decide +kernel) fl6_40r.1 (fun C T N h => by cases h; exact ⟨rfl, by decide +kernel⟩) rfl rfl hk (by rw [fl6_40r.2, eh10]; exact Wr.i) ?_
  refine g_aload_n (n := 0) (sz := o + 1) X (by decide +kernel) 0 rfl ?_
  refine g_iconst (n := 0) (x := (0 : Int32)) (sz := o + 1) X (by decide +kernel) (by decide) ?_
  obtain ⟨h11, eh11⟩ : ∃ q, q = sI h10 o 10 (0 : Int32) := ⟨_, rfl⟩
  refine g_putf (h' := h11) (ty := .int) (sz := o + 1) X (by decide +kernel) fl6_43r.1 (fun C T N h => by cases h; exact ⟨rfl, by decide +kernel⟩) rfl rfl hk (by rw [fl6_43r.2, eh11]; exact Wr.i) ?_
  refine i_fin (ci := 6) (sz := o + 1) X hk rfl rfl ?_ ?_
  · intro j hj
    subst eh11
    subst eh10
    subst eh9
    subst eh8
    subst eh7
    subst eh6
    subst eh5
    subst eh4
    subst eh3
    subst eh2
    subst eh1
    exact hall6 K h o j hj
  · subst eh11
    subst eh10
    subst eh9
    subst eh8
    subst eh7
    subst eh6
    subst eh5
    subst eh4
    subst eh3
    subst eh2
    subst eh1
    exact i_ret (sz := o + 1) X O (by decide +kernel) (by decide) (by decide)
def kI7 (K : Ly) (o : Nat) : Ly := (kS K o (.inl 7))
def hI7 (h : Hp) (o : Nat) : Hp := (sI (sI (sI (sI (sI (sI (sI (sI (sI (sI (sI (sI (sI (sI h o 0 (0 : Int32)) o 1 (0 : Int32)) o 2 (0 : Int32)) o 3 (0 : Int32)) o 4 (0 : Int32)) o 5 (0 : Int32)) o 6 (0 : Int32)) o 7 (0 : Int32)) o 8 (0 : Int32)) o 9 (0 : Int32)) o 10 (0 : Int32)) o 11 (0 : Int32)) o 12 (0 : Int32)) o 13 (0 : Int32))
theorem kI7_o {K : Ly} {o : Nat} : kI7 K o o = some (.inl 7) := by simp [kI7, kS]
theorem kI7_old {K : Ly} {o a : Nat} (ha : a < o) : kI7 K o a = K a := by
  unfold kI7
  repeat (first | rw [kS, if_neg (by omega)] | rfl)
theorem hall7 (K : Ly) (h : Hp) (o j : Nat) (hj : j < 14) : tV (fc 19 j) (hI7 h o) o j = tV (fc 7 j) (hI7 h o) o j := by
  exact (show ∀ j, j < 14 → fc 19 j = fc 7 j by decide +kernel) j hj ▸ rfl
set_option maxHeartbeats 4000000 in
set_option maxRecDepth 100000 in
theorem ci7 {sp : Sp} {K : Ly} {h : Hp} {o : Nat} (hk : K o = some (.inl 19)) : ConI sp y7_init prog_6_method_1_code 1 1 0 0 o (o + 1) K h (o + 1) (kI7 K o) (hI7 h o) := by
  refine ConI.of (by decide) rfl (by decide) (fun Γ X O Q => ?_)
  refine g_aload_n (n := 0) (sz := o + 1) X (by decide +kernel) 0 rfl ?_
  refine i_obj (idx := 1) (sz := o + 1) X (by decide +kernel) (in_c2 46 rfl rfl) ob_i ob_c (by decide) (Nat.le_of_ble_eq_true rfl) ?_
  refine g_aload_n (n := 0) (sz := o + 1) X (by decide +kernel) 0 rfl ?_
  refine g_iconst (n := 0) (x := (0 : Int32)) (sz := o + 1) X (by decide +kernel) (by decide) ?_
  obtain ⟨h1, eh1⟩ : ∃ q, q = sI h o 0 (0 : Int32) := ⟨_, rfl⟩
  refine g_putf (h' := h1) (ty := .int) (sz := o + 1) X (by decide +kernel) fl7_9r.1 (fun C T N h => by cases h; exact ⟨rfl, by decide +kernel⟩) rfl rfl hk (by rw [fl7_9r.2, eh1]; exact Wr.i) ?_
  refine g_aload_n (n := 0) (sz := o + 1) X (by decide +kernel) 0 rfl ?_
  refine g_iconst (n := 0) (x := (0 : Int32)) (sz := o + 1) X (by decide +kernel) (by decide) ?_
  obtain ⟨h2, eh2⟩ : ∃ q, q = sI h1 o 1 (0 : Int32) := ⟨_, rfl⟩
  refine g_putf (h' := h2) (ty := .int) (sz := o + 1) X (by decide +kernel) fl7_13r.1 (fun C T N h => by cases h; exact ⟨rfl, by decide +kernel⟩) rfl rfl hk (by rw [fl7_13r.2, eh2]; exact Wr.i) ?_
  refine g_aload_n (n := 0) (sz := o + 1) X (by decide +kernel) 0 rfl ?_
  refine g_iconst (n := 0) (x := (0 : Int32)) (sz := o + 1) X (by decide +kernel) (by decide) ?_
  obtain ⟨h3, eh3⟩ : ∃ q, q = sI h2 o 2 (0 : Int32) := ⟨_, rfl⟩
  refine g_putf (h' := h3) (ty := .int) (sz := o + 1) X (by decide +kernel) fl7_16r.1 (fun C T N h => by cases h; exact ⟨rfl, by decide +kernel⟩) rfl rfl hk (by rw [fl7_16r.2, eh3]; exact Wr.i) ?_
  refine g_aload_n (n := 0) (sz := o + 1) X (by decide +kernel) 0 rfl ?_
  refine g_iconst (n := 0) (x := (0 : Int32)) (sz := o + 1) X (by decide +kernel) (by decide) ?_
  obtain ⟨h4, eh4⟩ : ∃ q, q = sI h3 o 3 (0 : Int32) := ⟨_, rfl⟩
  refine g_putf (h' := h4) (ty := .int) (sz := o + 1) X (by decide +kernel) fl7_19r.1 (fun C T N h => by cases h; exact ⟨rfl, by decide +kernel⟩) rfl rfl hk (by rw [fl7_19r.2, eh4]; exact Wr.i) ?_
  refine g_aload_n (n := 0) (sz := o + 1) X (by decide +kernel) 0 rfl ?_
  refine g_iconst (n := 0) (x := (0 : Int32)) (sz := o + 1) X (by decide +kernel) (by decide) ?_
  obtain ⟨h5, eh5⟩ : ∃ q, q = sI h4 o 4 (0 : Int32) := ⟨_, rfl⟩
  refine g_putf (h' := h5) (ty := .int) (sz := o + 1) X (by decide +kernel) fl7_22r.1 (fun C T N h => by cases h; exact ⟨rfl, by decide +kernel⟩) rfl rfl hk (by rw [fl7_22r.2, eh5]; exact Wr.i) ?_
  refine g_aload_n (n := 0) (sz := o + 1) X (by decide +kernel) 0 rfl ?_
  refine g_iconst (n := 0) (x := (0 : Int32)) (sz := o + 1) X (by decide +kernel) (by decide) ?_
  obtain ⟨h6, eh6⟩ : ∃ q, q = sI h5 o 5 (0 : Int32) := ⟨_, rfl⟩
  refine g_putf (h' := h6) (ty := .int) (sz := o + 1) X (by decide +kernel) fl7_25r.1 (fun C T N h => by cases h; exact ⟨rfl, by decide +kernel⟩) rfl rfl hk (by rw [fl7_25r.2, eh6]; exact Wr.i) ?_
  refine g_aload_n (n := 0) (sz := o + 1) X (by decide +kernel) 0 rfl ?_
  refine g_iconst (n := 0) (x := (0 : Int32)) (sz := o + 1) X (by decide +kernel) (by decide) ?_
  obtain ⟨h7, eh7⟩ : ∃ q, q = sI h6 o 6 (0 : Int32) := ⟨_, rfl⟩
  refine g_putf (h' := h7) (ty := .int) (sz := o + 1) X (by decide +kernel) fl7_28r.1 (fun C T N h => by cases h; exact ⟨rfl, by decide +kernel⟩) rfl rfl hk (by rw [fl7_28r.2, eh7]; exact Wr.i) ?_
  refine g_aload_n (n := 0) (sz := o + 1) X (by decide +kernel) 0 rfl ?_
  refine g_iconst (n := 0) (x := (0 : Int32)) (sz := o + 1) X (by decide +kernel) (by decide) ?_
  obtain ⟨h8, eh8⟩ : ∃ q, q = sI h7 o 7 (0 : Int32) := ⟨_, rfl⟩
  refine g_putf (h' := h8) (ty := .int) (sz := o + 1) X (by decide +kernel) fl7_31r.1 (fun C T N h => by cases h; exact ⟨rfl, by decide +kernel⟩) rfl rfl hk (by rw [fl7_31r.2, eh8]; exact Wr.i) ?_
  refine g_aload_n (n := 0) (sz := o + 1) X (by decide +kernel) 0 rfl ?_
  refine g_iconst (n := 0) (x := (0 : Int32)) (sz := o + 1) X (by decide +kernel) (by decide) ?_
  obtain ⟨h9, eh9⟩ : ∃ q, q = sI h8 o 8 (0 : Int32) := ⟨_, rfl⟩
  refine g_putf (h' := h9) (ty := .int) (sz := o + 1) X (by decide +kernel) fl7_34r.1 (fun C T N h => by cases h; exact ⟨rfl, by decide +kernel⟩) rfl rfl hk (by rw [fl7_34r.2, eh9]; exact Wr.i) ?_
  refine g_aload_n (n := 0) (sz := o + 1) X (by decide +kernel) 0 rfl ?_
  refine g_iconst (n := 0) (x := (0 : Int32)) (sz := o + 1) X (by decide +kernel) (by decide) ?_
  obtain ⟨h10, eh10⟩ : ∃ q, q = sI h9 o 9 (0 : Int32) := ⟨_, rfl⟩
  refine g_putf (h' := h10) (ty := .int) (sz := o + 1) X (by decide +kernel) fl7_37r.1 (fun C T N h => by cases h; exact ⟨rfl, by decide +kernel⟩) rfl rfl hk (by rw [fl7_37r.2, eh10]; exact Wr.i) ?_
  refine g_aload_n (n := 0) (sz := o + 1) X (by decide +kernel) 0 rfl ?_
  refine g_iconst (n := 0) (x := (0 : Int32)) (sz := o + 1) X (by decide +kernel) (by decide) ?_
  obtain ⟨h11, eh11⟩ : ∃ q, q = sI h10 o 10 (0 : Int32) := ⟨_, rfl⟩
  refine g_putf (h' := h11) (ty := .int) (sz := o + 1) X (by decide +kernel) fl7_40r.1 (fun C T N h => by cases h; exact ⟨rfl, by decide +kernel⟩) rfl rfl hk (by rw [fl7_40r.2, eh11]; exact Wr.i) ?_
  refine g_aload_n (n := 0) (sz := o + 1) X (by decide +kernel) 0 rfl ?_
  refine g_iconst (n := 0) (x := (0 : Int32)) (sz := o + 1) X (by decide +kernel) (by decide) ?_
  obtain ⟨h12, eh12⟩ : ∃ q, q = sI h11 o 11 (0 : Int32) := ⟨_, rfl⟩
  refine g_putf (h' := h12) (ty := .int) (sz := o + 1) X (by decide +kernel) fl7_43r.1 (fun C T N h => by cases h; exact ⟨rfl, by decide +kernel⟩) rfl rfl hk (by rw [fl7_43r.2, eh12]; exact Wr.i) ?_
  refine g_aload_n (n := 0) (sz := o + 1) X (by decide +kernel) 0 rfl ?_
  refine g_iconst (n := 0) (x := (0 : Int32)) (sz := o + 1) X (by decide +kernel) (by decide) ?_
  obtain ⟨h13, eh13⟩ : ∃ q, q = sI h12 o 12 (0 : Int32) := ⟨_, rfl⟩
  refine g_putf (h' := h13) (ty := .int) (sz := o + 1) X (by decide +kernel) fl7_46r.1 (fun C T N h => by cases h; exact ⟨rfl, by decide +kernel⟩) rfl rfl hk (by rw [fl7_46r.2, eh13]; exact Wr.i) ?_
  refine g_aload_n (n := 0) (sz := o + 1) X (by decide +kernel) 0 rfl ?_
  refine g_iconst (n := 0) (x := (0 : Int32)) (sz := o + 1) X (by decide +kernel) (by decide) ?_
  obtain ⟨h14, eh14⟩ : ∃ q, q = sI h13 o 13 (0 : Int32) := ⟨_, rfl⟩
  refine g_putf (h' := h14) (ty := .int) (sz := o + 1) X (by decide +kernel) fl7_49r.1 (fun C T N h => by cases h; exact ⟨rfl, by decide +kernel⟩) rfl rfl hk (by rw [fl7_49r.2, eh14]; exact Wr.i) ?_
  refine i_fin (ci := 7) (sz := o + 1) X hk rfl rfl ?_ ?_
  · intro j hj
    subst eh14
    subst eh13
    subst eh12
    subst eh11
    subst eh10
    subst eh9
    subst eh8
    subst eh7
    subst eh6
    subst eh5
    subst eh4
    subst eh3
    subst eh2
    subst eh1
    exact hall7 K h o j hj
  · subst eh14
    subst eh13
    subst eh12
    subst eh11
    subst eh10
    subst eh9
    subst eh8
    subst eh7
    subst eh6
    subst eh5
    subst eh4
    subst eh3
    subst eh2
    subst eh1
    exact i_ret (sz := o + 1) X O (by decide +kernel) (by decide) (by decide)
def kI8 (K : Ly) (o : Nat) : Ly := (kS (kS (kS (kS K (o + 1) (.inr (0, 4))) (o + 2) (.inr (0, 4))) (o + 3) (.inr (0, 4))) o (.inl 8))
def hI8 (h : Hp) (o : Nat) : Hp := (sR (zr (sR (zr (sR (zr (sI h o 0 (0 : Int32)) (o + 1)) o 1 (some (o + 1))) (o + 2)) o 2 (some (o + 2))) (o + 3)) o 3 (some (o + 3)))
theorem kI8_o {K : Ly} {o : Nat} : kI8 K o o = some (.inl 8) := by simp [kI8, kS]
theorem kI8_old {K : Ly} {o a : Nat} (ha : a < o) : kI8 K o a = K a := by
  unfold kI8
  repeat (first | rw [kS, if_neg (by omega)] | rfl)
set_option maxHeartbeats 4000000 in
set_option maxRecDepth 100000 in
theorem st8_1 (h : Hp) (o : Nat) : (hI8 h o).2.2 o 1 = some (o + 1) := by
  simp only [hI8, sI, sL, sR, zr]
  simp
set_option maxHeartbeats 4000000 in
set_option maxRecDepth 100000 in
theorem st8_2 (h : Hp) (o : Nat) : (hI8 h o).2.2 o 2 = some (o + 2) := by
  simp only [hI8, sI, sL, sR, zr]
  simp
set_option maxHeartbeats 4000000 in
set_option maxRecDepth 100000 in
theorem st8_3 (h : Hp) (o : Nat) : (hI8 h o).2.2 o 3 = some (o + 3) := by
  simp only [hI8, sI, sL, sR, zr]
  simp
theorem hall8 (K : Ly) (h : Hp) (o j : Nat) (hj : j < 4) : tV (fc 20 j) (hI8 h o) o j = tV (fc 8 j) (hI8 h o) o j := by
  by_cases hs : fc 20 j = fc 8 j
  · rw [hs]
  · have hm : j = 1 ∨ j = 2 ∨ j = 3 := (show ∀ j, j < 4 → ¬ fc 20 j = fc 8 j → (j = 1 ∨ j = 2 ∨ j = 3) by decide +kernel) j hj hs
    rcases hm with rfl | rfl | rfl
    · show va_rf ((hI8 h o).2.2 o 1) = .ref (o + 1)
      rw [st8_1]; rfl
    · show va_rf ((hI8 h o).2.2 o 2) = .ref (o + 2)
      rw [st8_2]; rfl
    · show va_rf ((hI8 h o).2.2 o 3) = .ref (o + 3)
      rw [st8_3]; rfl
set_option maxHeartbeats 4000000 in
set_option maxRecDepth 100000 in
theorem ci8 {sp : Sp} {K : Ly} {h : Hp} {o : Nat} (hk : K o = some (.inl 20)) : ConI sp y8_init prog_10_method_1_code 1 1 3 12 o (o + 1) K h (o + 4) (kI8 K o) (hI8 h o) := by
  refine ConI.of (by decide) rfl (by decide) (fun Γ X O Q => ?_)
  refine g_aload_n (n := 0) (sz := o + 1) X (by decide +kernel) 0 rfl ?_
  refine i_obj (idx := 3) (sz := o + 1) X (by decide +kernel) (in_c2 166 rfl rfl) ob_i ob_c (by decide) (Nat.le_of_ble_eq_true rfl) ?_
  refine g_aload_n (n := 0) (sz := o + 1) X (by decide +kernel) 0 rfl ?_
  refine g_iconst (n := 0) (x := (0 : Int32)) (sz := o + 1) X (by decide +kernel) (by decide) ?_
  obtain ⟨h1, eh1⟩ : ∃ q, q = sI h o 0 (0 : Int32) := ⟨_, rfl⟩
  refine g_putf (h' := h1) (ty := .int) (sz := o + 1) X (by decide +kernel) fl8_9r.1 (fun C T N h => by cases h; exact ⟨rfl, by decide +kernel⟩) rfl rfl hk (by rw [fl8_9r.2, eh1]; exact Wr.i) ?_
  refine g_aload_n (n := 0) (sz := o + 1) X (by decide +kernel) 0 rfl ?_
  refine g_iconst (n := 4) (x := (4 : Int32)) (sz := o + 1) X (by decide +kernel) (by decide) ?_
  refine i_newa (aty := .int) (t := 0) (n := 4) (sz := o + 1) X O (by decide +kernel) (by decide) rfl ac_0 rfl (by decide) (by decide) (by decide) (by decide) (by decide) ?_
  obtain ⟨K1, eK1⟩ : ∃ q, q = kS K (o + 1) (.inr (0, 4)) := ⟨_, rfl⟩
  rw [← eK1]
  obtain ⟨h2, eh2⟩ : ∃ q, q = zr h1 (o + 1) := ⟨_, rfl⟩
  rw [← eh2]
  have p1_o : K1 (o) = some (.inl 20) := by rw [eK1]; exact kS_ne hk (by omega)
  have q1 : K1 (o + 1) = some (.inr (0, 4)) := by rw [eK1]; exact kS_eq
  obtain ⟨h3, eh3⟩ : ∃ q, q = sR h2 o 1 (some (o + 1)) := ⟨_, rfl⟩
  refine i_putF (h' := h3) (ty := .array (.int)) (sz := o + 2) X O (by decide +kernel) fl8_15r.1 (fun C T N h => by cases h; exact ⟨rfl, by decide +kernel⟩) (fun C T N h => by cases h; rfl) rfl rfl p1_o (by rw [fl8_15r.2, eh3]; exact Wr.r (x := some (o + 1))) ?_
  refine g_aload_n (n := 0) (sz := o + 2) X (by decide +kernel) 0 rfl ?_
  refine g_iconst (n := 4) (x := (4 : Int32)) (sz := o + 2) X (by decide +kernel) (by decide) ?_
  refine i_newa (aty := .int) (t := 0) (n := 4) (sz := o + 2) X O (by decide +kernel) (by decide) rfl ac_0 rfl (by decide) (by decide) (by decide) (by decide) (by decide) ?_
  obtain ⟨K2, eK2⟩ : ∃ q, q = kS K1 (o + 2) (.inr (0, 4)) := ⟨_, rfl⟩
  rw [← eK2]
  obtain ⟨h4, eh4⟩ : ∃ q, q = zr h3 (o + 2) := ⟨_, rfl⟩
  rw [← eh4]
  have p2_o : K2 (o) = some (.inl 20) := by rw [eK2]; exact kS_ne p1_o (by omega)
  have p2_o1 : K2 (o + 1) = some (.inr (0, 4)) := by rw [eK2]; exact kS_ne q1 (by omega)
  have q2 : K2 (o + 2) = some (.inr (0, 4)) := by rw [eK2]; exact kS_eq
  obtain ⟨h5, eh5⟩ : ∃ q, q = sR h4 o 2 (some (o + 2)) := ⟨_, rfl⟩
  refine i_putF (h' := h5) (ty := .array (.int)) (sz := o + 3) X O (by decide +kernel) fl8_19r.1 (fun C T N h => by cases h; exact ⟨rfl, by decide +kernel⟩) (fun C T N h => by cases h; rfl) rfl rfl p2_o (by rw [fl8_19r.2, eh5]; exact Wr.r (x := some (o + 2))) ?_
  refine g_aload_n (n := 0) (sz := o + 3) X (by decide +kernel) 0 rfl ?_
  refine g_iconst (n := 4) (x := (4 : Int32)) (sz := o + 3) X (by decide +kernel) (by decide) ?_
  refine i_newa (aty := .int) (t := 0) (n := 4) (sz := o + 3) X O (by decide +kernel) (by decide) rfl ac_0 rfl (by decide) (by decide) (by decide) (by decide) (by decide) ?_
  obtain ⟨K3, eK3⟩ : ∃ q, q = kS K2 (o + 3) (.inr (0, 4)) := ⟨_, rfl⟩
  rw [← eK3]
  obtain ⟨h6, eh6⟩ : ∃ q, q = zr h5 (o + 3) := ⟨_, rfl⟩
  rw [← eh6]
  have p3_o : K3 (o) = some (.inl 20) := by rw [eK3]; exact kS_ne p2_o (by omega)
  have p3_o1 : K3 (o + 1) = some (.inr (0, 4)) := by rw [eK3]; exact kS_ne p2_o1 (by omega)
  have p3_o2 : K3 (o + 2) = some (.inr (0, 4)) := by rw [eK3]; exact kS_ne q2 (by omega)
  have q3 : K3 (o + 3) = some (.inr (0, 4)) := by rw [eK3]; exact kS_eq
  obtain ⟨h7, eh7⟩ : ∃ q, q = sR h6 o 3 (some (o + 3)) := ⟨_, rfl⟩
  refine i_putF (h' := h7) (ty := .array (.int)) (sz := o + 4) X O (by decide +kernel) fl8_22r.1 (fun C T N h => by cases h; exact ⟨rfl, by decide +kernel⟩) (fun C T N h => by cases h; rfl) rfl rfl p3_o (by rw [fl8_22r.2, eh7]; exact Wr.r (x := some (o + 3))) ?_
  refine i_fin (ci := 8) (sz := o + 4) X p3_o rfl rfl ?_ ?_
  · intro j hj
    subst eh7
    subst eh6
    subst eK3
    subst eh5
    subst eh4
    subst eK2
    subst eh3
    subst eh2
    subst eK1
    subst eh1
    exact hall8 K h o j hj
  · subst eh7
    subst eh6
    subst eK3
    subst eh5
    subst eh4
    subst eK2
    subst eh3
    subst eh2
    subst eK1
    subst eh1
    exact i_ret (sz := o + 4) X O (by decide +kernel) (by decide) (by decide)
def kI9 (K : Ly) (o : Nat) : Ly := (kS K o (.inl 9))
def hI9 (h : Hp) (o : Nat) : Hp := (sI (sI (sI (sI (sI (sI (sI (sI h o 0 (0 : Int32)) o 1 (0 : Int32)) o 2 (-1 : Int32)) o 3 (-1 : Int32)) o 4 (-1 : Int32)) o 5 (-1 : Int32)) o 6 (-1 : Int32)) o 7 (-1 : Int32))
theorem kI9_o {K : Ly} {o : Nat} : kI9 K o o = some (.inl 9) := by simp [kI9, kS]
theorem kI9_old {K : Ly} {o a : Nat} (ha : a < o) : kI9 K o a = K a := by
  unfold kI9
  repeat (first | rw [kS, if_neg (by omega)] | rfl)
theorem hall9 (K : Ly) (h : Hp) (o j : Nat) (hj : j < 8) : tV (fc 21 j) (hI9 h o) o j = tV (fc 9 j) (hI9 h o) o j := by
  exact (show ∀ j, j < 8 → fc 21 j = fc 9 j by decide +kernel) j hj ▸ rfl
set_option maxHeartbeats 4000000 in
set_option maxRecDepth 100000 in
theorem ci9 {sp : Sp} {K : Ly} {h : Hp} {o : Nat} (hk : K o = some (.inl 21)) : ConI sp y9_init prog_4_method_1_code 1 1 0 0 o (o + 1) K h (o + 1) (kI9 K o) (hI9 h o) := by
  refine ConI.of (by decide) rfl (by decide) (fun Γ X O Q => ?_)
  refine g_aload_n (n := 0) (sz := o + 1) X (by decide +kernel) 0 rfl ?_
  refine i_obj (idx := 3) (sz := o + 1) X (by decide +kernel) (in_c2 192 rfl rfl) ob_i ob_c (by decide) (Nat.le_of_ble_eq_true rfl) ?_
  refine g_aload_n (n := 0) (sz := o + 1) X (by decide +kernel) 0 rfl ?_
  refine g_iconst (n := 0) (x := (0 : Int32)) (sz := o + 1) X (by decide +kernel) (by decide) ?_
  obtain ⟨h1, eh1⟩ : ∃ q, q = sI h o 0 (0 : Int32) := ⟨_, rfl⟩
  refine g_putf (h' := h1) (ty := .int) (sz := o + 1) X (by decide +kernel) fl9_9r.1 (fun C T N h => by cases h; exact ⟨rfl, by decide +kernel⟩) rfl rfl hk (by rw [fl9_9r.2, eh1]; exact Wr.i) ?_
  refine g_aload_n (n := 0) (sz := o + 1) X (by decide +kernel) 0 rfl ?_
  refine g_iconst (n := 0) (x := (0 : Int32)) (sz := o + 1) X (by decide +kernel) (by decide) ?_
  obtain ⟨h2, eh2⟩ : ∃ q, q = sI h1 o 1 (0 : Int32) := ⟨_, rfl⟩
  refine g_putf (h' := h2) (ty := .int) (sz := o + 1) X (by decide +kernel) fl9_15r.1 (fun C T N h => by cases h; exact ⟨rfl, by decide +kernel⟩) rfl rfl hk (by rw [fl9_15r.2, eh2]; exact Wr.i) ?_
  refine g_aload_n (n := 0) (sz := o + 1) X (by decide +kernel) 0 rfl ?_
  refine g_iconst (n := -1) (x := (-1 : Int32)) (sz := o + 1) X (by decide +kernel) (by decide) ?_
  obtain ⟨h3, eh3⟩ : ∃ q, q = sI h2 o 2 (-1 : Int32) := ⟨_, rfl⟩
  refine g_putf (h' := h3) (ty := .int) (sz := o + 1) X (by decide +kernel) fl9_18r.1 (fun C T N h => by cases h; exact ⟨rfl, by decide +kernel⟩) rfl rfl hk (by rw [fl9_18r.2, eh3]; exact Wr.i) ?_
  refine g_aload_n (n := 0) (sz := o + 1) X (by decide +kernel) 0 rfl ?_
  refine g_iconst (n := -1) (x := (-1 : Int32)) (sz := o + 1) X (by decide +kernel) (by decide) ?_
  obtain ⟨h4, eh4⟩ : ∃ q, q = sI h3 o 3 (-1 : Int32) := ⟨_, rfl⟩
  refine g_putf (h' := h4) (ty := .int) (sz := o + 1) X (by decide +kernel) fl9_21r.1 (fun C T N h => by cases h; exact ⟨rfl, by decide +kernel⟩) rfl rfl hk (by rw [fl9_21r.2, eh4]; exact Wr.i) ?_
  refine g_aload_n (n := 0) (sz := o + 1) X (by decide +kernel) 0 rfl ?_
  refine g_iconst (n := -1) (x := (-1 : Int32)) (sz := o + 1) X (by decide +kernel) (by decide) ?_
  obtain ⟨h5, eh5⟩ : ∃ q, q = sI h4 o 4 (-1 : Int32) := ⟨_, rfl⟩
  refine g_putf (h' := h5) (ty := .int) (sz := o + 1) X (by decide +kernel) fl9_24r.1 (fun C T N h => by cases h; exact ⟨rfl, by decide +kernel⟩) rfl rfl hk (by rw [fl9_24r.2, eh5]; exact Wr.i) ?_
  refine g_aload_n (n := 0) (sz := o + 1) X (by decide +kernel) 0 rfl ?_
  refine g_iconst (n := -1) (x := (-1 : Int32)) (sz := o + 1) X (by decide +kernel) (by decide) ?_
  obtain ⟨h6, eh6⟩ : ∃ q, q = sI h5 o 5 (-1 : Int32) := ⟨_, rfl⟩
  refine g_putf (h' := h6) (ty := .int) (sz := o + 1) X (by decide +kernel) fl9_27r.1 (fun C T N h => by cases h; exact ⟨rfl, by decide +kernel⟩) rfl rfl hk (by rw [fl9_27r.2, eh6]; exact Wr.i) ?_
  refine g_aload_n (n := 0) (sz := o + 1) X (by decide +kernel) 0 rfl ?_
  refine g_iconst (n := -1) (x := (-1 : Int32)) (sz := o + 1) X (by decide +kernel) (by decide) ?_
  obtain ⟨h7, eh7⟩ : ∃ q, q = sI h6 o 6 (-1 : Int32) := ⟨_, rfl⟩
  refine g_putf (h' := h7) (ty := .int) (sz := o + 1) X (by decide +kernel) fl9_30r.1 (fun C T N h => by cases h; exact ⟨rfl, by decide +kernel⟩) rfl rfl hk (by rw [fl9_30r.2, eh7]; exact Wr.i) ?_
  refine g_aload_n (n := 0) (sz := o + 1) X (by decide +kernel) 0 rfl ?_
  refine g_iconst (n := -1) (x := (-1 : Int32)) (sz := o + 1) X (by decide +kernel) (by decide) ?_
  obtain ⟨h8, eh8⟩ : ∃ q, q = sI h7 o 7 (-1 : Int32) := ⟨_, rfl⟩
  refine g_putf (h' := h8) (ty := .int) (sz := o + 1) X (by decide +kernel) fl9_33r.1 (fun C T N h => by cases h; exact ⟨rfl, by decide +kernel⟩) rfl rfl hk (by rw [fl9_33r.2, eh8]; exact Wr.i) ?_
  refine i_fin (ci := 9) (sz := o + 1) X hk rfl rfl ?_ ?_
  · intro j hj
    subst eh8
    subst eh7
    subst eh6
    subst eh5
    subst eh4
    subst eh3
    subst eh2
    subst eh1
    exact hall9 K h o j hj
  · subst eh8
    subst eh7
    subst eh6
    subst eh5
    subst eh4
    subst eh3
    subst eh2
    subst eh1
    exact i_ret (sz := o + 1) X O (by decide +kernel) (by decide) (by decide)
