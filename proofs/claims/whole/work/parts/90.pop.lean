/-! how many bits: the JDK's way, and one by one -/
def mk8 (b : Nat) : Nat → Nat
  | 0 => 0
  | n + 1 => 256 * mk8 b n + b
theorem land_sp {k a b c d : Nat} (hb : b < 2 ^ k) (hd : d < 2 ^ k) : (2 ^ k * a + b) &&& (2 ^ k * c + d) = 2 ^ k * (a &&& c) + (b &&& d) := by
  have hbd : b &&& d < 2 ^ k := Nat.lt_of_le_of_lt Nat.and_le_left hb
  refine Nat.eq_of_testBit_eq (fun i => ?_)
  rw [Nat.testBit_and, Nat.testBit_two_pow_mul_add _ hb, Nat.testBit_two_pow_mul_add _ hd, Nat.testBit_two_pow_mul_add _ hbd]
  split
  · rw [Nat.testBit_and]
  · rw [Nat.testBit_and]
theorem land_8 {a b c d : Nat} (hb : b < 256) (hd : d < 256) : (256 * a + b) &&& (256 * c + d) = 256 * (a &&& c) + (b &&& d) := land_sp (k := 8) hb hd
def t1 (n x : Nat) : Nat := x - ((x / 2) &&& mk8 85 n)
def t2 (n y : Nat) : Nat := (y &&& mk8 51 n) + ((y / 4) &&& mk8 51 n)
def t3 (n y : Nat) : Nat := (y + y / 16) &&& mk8 15 n
def p1 (r : Nat) : Nat := r - ((r / 2) &&& 85)
def p2 (r : Nat) : Nat := (r &&& 51) + ((r / 4) &&& 51)
def p3 (r : Nat) : Nat := (r + r / 16) &&& 15
theorem d1 : ∀ s, s < 2 → ∀ t, t < 128 → (128 * s + t) &&& 85 = t &&& 85 := by decide +kernel
theorem d2 : ∀ s, s < 4 → ∀ t, t < 64 → (64 * s + t) &&& 51 = t &&& 51 := by decide +kernel
theorem d3 : ∀ s, s < 5 → ∀ r, r < 69 → (r + 16 * s + r / 16) &&& 15 = (r + r / 16) &&& 15 := by decide +kernel
theorem d4 : ∀ r, r < 256 → (r / 2) &&& 85 ≤ r ∧ p1 r < 256 ∧ p2 (p1 r) < 69 ∧ (p2 (p1 r)) % 16 < 5 ∧ p3 (p2 (p1 r)) ≤ 8 := by decide +kernel
theorem t1_st {n q r : Nat} (hr : r < 256) : t1 (n + 1) (256 * q + r) = 256 * t1 n q + p1 r := by
  have h1 : (256 * q + r) / 2 = 256 * (q / 2) + (128 * (q % 2) + r / 2) := by omega
  have h2 : ((256 * q + r) / 2) &&& mk8 85 (n + 1) = 256 * ((q / 2) &&& mk8 85 n) + ((r / 2) &&& 85) := by
    rw [h1, show mk8 85 (n + 1) = 256 * mk8 85 n + 85 from rfl, land_8 (by omega) (by omega), d1 _ (by omega) _ (by omega)]
  have h3 : (q / 2) &&& mk8 85 n ≤ q := Nat.le_trans Nat.and_le_left (Nat.div_le_self _ _)
  have h4 := (d4 r hr).1
  unfold t1 p1
  rw [h2]; omega
theorem t2_st {n q r : Nat} (hr : r < 256) : t2 (n + 1) (256 * q + r) = 256 * t2 n q + p2 r := by
  have h1 : (256 * q + r) / 4 = 256 * (q / 4) + (64 * (q % 4) + r / 4) := by omega
  have h2 : ((256 * q + r) / 4) &&& mk8 51 (n + 1) = 256 * ((q / 4) &&& mk8 51 n) + ((r / 4) &&& 51) := by
    rw [h1, show mk8 51 (n + 1) = 256 * mk8 51 n + 51 from rfl, land_8 (by omega) (by omega), d2 _ (by omega) _ (by omega)]
  have h3 : (256 * q + r) &&& mk8 51 (n + 1) = 256 * (q &&& mk8 51 n) + (r &&& 51) := by
    rw [show mk8 51 (n + 1) = 256 * mk8 51 n + 51 from rfl, land_8 hr (by omega)]
  unfold t2 p2
  rw [h2, h3]; omega
theorem t3_st {n q r : Nat} (hr : r < 69) (hq : q % 16 < 5) : t3 (n + 1) (256 * q + r) = 256 * t3 n q + p3 r := by
  have h1 : 256 * q + r + (256 * q + r) / 16 = 256 * (q + q / 16) + (r + 16 * (q % 16) + r / 16) := by omega
  unfold t3 p3
  rw [h1, show mk8 15 (n + 1) = 256 * mk8 15 n + 15 from rfl, land_8 (by omega) (by omega), d3 _ hq _ hr]
/-- bytes -/
def dg (x i : Nat) : Nat := x / 256 ^ i % 256
def p4 (r : Nat) : Nat := p3 (p2 (p1 r))
def sS8 (f : Nat → Nat) (x : Nat) : Nat → Nat
  | 0 => 0
  | n + 1 => f (x % 256) + 256 * sS8 f (x / 256) n
theorem t123 : ∀ (n x : Nat), x < 256 ^ n → t3 n (t2 n (t1 n x)) = sS8 p4 x n ∧ (t2 n (t1 n x)) % 16 < 5 := by
  intro n
  induction n with
  | zero =>
    intro x hx
    have : x = 0 := by simp at hx; omega
    subst this
    exact ⟨by decide, by decide⟩
  | succ n ih =>
    intro x hx
    have h0 : x = 256 * (x / 256) + x % 256 := by omega
    have hr : x % 256 < 256 := Nat.mod_lt _ (by omega)
    have hq : x / 256 < 256 ^ n := by rw [Nat.div_lt_iff_lt_mul (by omega), ← Nat.pow_succ]; exact hx
    obtain ⟨i1, i2⟩ := ih (x / 256) hq
    obtain ⟨e1, e2, e3, e4, e5⟩ := d4 (x % 256) hr
    have s1 : t1 (n + 1) x = 256 * t1 n (x / 256) + p1 (x % 256) := by
      have := t1_st (n := n) (q := x / 256) hr
      rwa [← h0] at this
    have s2 : t2 (n + 1) (t1 (n + 1) x) = 256 * t2 n (t1 n (x / 256)) + p2 (p1 (x % 256)) := by rw [s1, t2_st e2]
    refine ⟨?_, ?_⟩
    · rw [s2, t3_st e3 i2, i1]
      show 256 * sS8 p4 (x / 256) n + p4 (x % 256) = p4 (x % 256) + 256 * sS8 p4 (x / 256) n
      omega
    · rw [s2]; omega
theorem p4_le : ∀ r, r < 256 → p4 r ≤ 8 := fun r hr => (d4 r hr).2.2.2.2
/-- bits one by one -/
def cbt (x : Nat) : Nat → Nat → Nat
  | 0, _ => 0
  | d + 1, i => (if x.testBit i = true then 1 else 0) + cbt x d (i + 1)
theorem p4_c : ∀ r, r < 256 → p4 r = cbt r 8 0 := by decide +kernel
theorem cbt_app (x : Nat) : ∀ a b i, cbt x (a + b) i = cbt x a i + cbt x b (i + a) := by
  intro a
  induction a with
  | zero => intro b i; simp [cbt]
  | succ a ih =>
    intro b i
    rw [show a + 1 + b = (a + b) + 1 by omega]
    simp only [cbt]
    rw [ih, show i + 1 + a = i + (a + 1) by omega]; omega
theorem cbt_sh (x : Nat) : ∀ d i, cbt x d (i + 8) = cbt (x / 256) d i := by
  intro d
  induction d with
  | zero => exact fun i => rfl
  | succ d ih =>
    intro i
    simp only [cbt]
    rw [show i + 8 + 1 = (i + 1) + 8 by omega, ih]
    congr 2
    rw [show (256 : Nat) = 2 ^ 8 from rfl, Nat.testBit_div_two_pow]
theorem cbt_lo (x : Nat) : ∀ d i, i + d ≤ 8 → cbt x d i = cbt (x % 256) d i := by
  intro d
  induction d with
  | zero => exact fun i _ => rfl
  | succ d ih =>
    intro i hi
    simp only [cbt]
    rw [ih (i + 1) (by omega)]
    congr 2
    rw [show (256 : Nat) = 2 ^ 8 from rfl, Nat.testBit_mod_two_pow]
    simp [show i < 8 by omega]
def dS : Nat → Nat → Nat
  | 0, _ => 0
  | n + 1, x => p4 (x % 256) + dS n (x / 256)
theorem dS_c : ∀ n x, dS n x = cbt x (8 * n) 0 := by
  intro n
  induction n with
  | zero => exact fun x => rfl
  | succ n ih =>
    intro x
    rw [show 8 * (n + 1) = 8 + 8 * n by omega, cbt_app]
    show p4 (x % 256) + dS n (x / 256) = _
    rw [ih, cbt_lo x 8 0 (by omega), cbt_sh x (8 * n) 0, p4_c _ (Nat.mod_lt _ (by omega))]
theorem dv_a {a q : Nat} (ha : a ≤ 8) : (a + 256 * q) / 256 = q := by omega
theorem dv_b {p q : Nat} (hp : p < 65536) : (p + 65536 * q) / 65536 = q := by omega
theorem dv_c {p q : Nat} (hp : p < 4294967296) : (p + 4294967296 * q) / 4294967296 = q := by omega
theorem md_z {p q : Nat} (hp : p < 128) : (p + 128 * q) % 128 = p := by omega
theorem i_2 {a b c Y Y1 Y2 Y3 : Nat} (k2 : Y2 = c + 256 * Y3) (k1 : Y1 = b + 256 * Y2) (k0 : Y = a + 256 * Y1) : Y + Y1 = ((a + b) + 256 * (b + c)) + 65536 * (Y2 + Y3) := by omega
theorem i_4 {a b c d e f g Y2 Y3 Y4 Y5 Z : Nat} (k5 : Y4 + Y5 + (Y2 + Y3) = (c + d + e + f) + 256 * (d + e + f + g) + 65536 * Z) (k3 : Y2 + Y3 = (c + d) + 256 * (d + e) + 65536 * (Y4 + Y5)) : ((a + b) + 256 * (b + c)) + 65536 * (Y2 + Y3) + (Y2 + Y3) = ((a + b + c + d) + 256 * (b + c + d + e) + 65536 * (c + d + e + f) + 16777216 * (d + e + f + g)) + 4294967296 * Z := by omega
theorem i_3 {c d e Y2 Y3 Y4 Y5 : Nat} (k4 : Y4 = e + 256 * Y5) (k3 : Y3 = d + 256 * Y4) (k2 : Y2 = c + 256 * Y3) : Y2 + Y3 = (c + d) + 256 * (d + e) + 65536 * (Y4 + Y5) := by omega
theorem i_5 {e f g i Y4 Y5 Y6 : Nat} (k6 : Y6 = g + 256 * i) (k5 : Y5 = f + 256 * Y6) (k4 : Y4 = e + 256 * Y5) : Y4 + Y5 = (e + f) + 256 * (f + g) + 65536 * (Y6 + i) := by omega
theorem i_6 {c d e f g S T U : Nat} (h1 : S = (c + d) + 256 * (d + e) + 65536 * T) (h2 : T = (e + f) + 256 * (f + g) + 65536 * U) : T + S = (c + d + e + f) + 256 * (d + e + f + g) + 65536 * (T + U) := by omega
theorem i_7 {e f g i Y4 Y5 Y6 : Nat} (k6 : Y6 = g + 256 * i) (k5 : Y5 = f + 256 * Y6) (k4 : Y4 = e + 256 * Y5) : Y4 + Y5 + (Y6 + i) = (e + f + g + i) + 128 * (2 * (Y5 + Y6 + i)) := by omega
theorem i_8 {p q r s u v w x : Nat} : (p + 256 * q + 65536 * r + 16777216 * s) + 4294967296 * u + (v + 128 * w) = (p + v) + 128 * (2 * (q + 256 * r + 65536 * s + 16777216 * u) + w) := by omega
theorem s_128 {a b c d e f g i : Nat} (ha : a ≤ 8) (hb : b ≤ 8) (hc : c ≤ 8) (hd : d ≤ 8) (he : e ≤ 8) (hf : f ≤ 8) (hg : g ≤ 8) (hi : i ≤ 8) : a + b + c + d + (e + f + g + i) < 128 := by omega
theorem fold8l {a b c d e f g i Y Y1 Y2 Y3 Y4 Y5 Y6 : Nat} (ha : a ≤ 8) (hb : b ≤ 8) (hc : c ≤ 8) (hd : d ≤ 8) (he : e ≤ 8) (hf : f ≤ 8) (hg : g ≤ 8) (hi : i ≤ 8) (k6 : Y6 = g + 256 * i) (k5 : Y5 = f + 256 * Y6) (k4 : Y4 = e + 256 * Y5) (k3 : Y3 = d + 256 * Y4) (k2 : Y2 = c + 256 * Y3) (k1 : Y1 = b + 256 * Y2) (k0 : Y = a + 256 * Y1) : Y6 ≤ 2056 ∧ Y5 ≤ 526344 ∧ Y4 ≤ 134744072 ∧ Y3 ≤ 34494482440 ∧ Y2 ≤ 8830587504648 ∧ Y1 ≤ 2260630401189896 ∧ Y ≤ 578721382704613384 := by
  have b6 : Y6 ≤ 2056 := by omega
  clear k6
  have b5 : Y5 ≤ 526344 := by omega
  clear k5
  have b4 : Y4 ≤ 134744072 := by omega
  clear k4
  have b3 : Y3 ≤ 34494482440 := by omega
  clear k3
  have b2 : Y2 ≤ 8830587504648 := by omega
  clear k2
  have b1 : Y1 ≤ 2260630401189896 := by omega
  clear k1
  have b0 : Y ≤ 578721382704613384 := by omega
  exact ⟨b6, b5, b4, b3, b2, b1, b0⟩
theorem lt_a {Y Y1 : Nat} (h0 : Y ≤ 578721382704613384) (h1 : Y1 ≤ 2260630401189896) : Y + Y1 < 18446744073709551616 := by omega
theorem lt_b {Y Y1 S : Nat} (h0 : Y ≤ 578721382704613384) (h1 : Y1 ≤ 2260630401189896) (h2 : S ≤ 8865081987088) : Y + Y1 + S < 18446744073709551616 := by omega
theorem lt_c {Y Y1 S Z : Nat} (h0 : Y ≤ 578721382704613384) (h1 : Y1 ≤ 2260630401189896) (h2 : S ≤ 8865081987088) (h3 : Z ≤ 135272480) : Y + Y1 + S + Z < 18446744073709551616 := by omega
theorem p_b {a b c d e f g : Nat} (ha : a ≤ 8) (hb : b ≤ 8) (hc : c ≤ 8) (hd : d ≤ 8) (he : e ≤ 8) (hf : f ≤ 8) (hg : g ≤ 8) : (a + b) + 256 * (b + c) < 65536 ∧ (a + b + c + d) + 256 * (b + c + d + e) + 65536 * (c + d + e + f) + 16777216 * (d + e + f + g) < 4294967296 := ⟨by omega, by omega⟩
theorem fold8 {a b c d e f g i Y Y1 Y2 Y3 Y4 Y5 Y6 : Nat} (ha : a ≤ 8) (hb : b ≤ 8) (hc : c ≤ 8) (hd : d ≤ 8) (he : e ≤ 8) (hf : f ≤ 8) (hg : g ≤ 8) (hi : i ≤ 8) (k6 : Y6 = g + 256 * i) (k5 : Y5 = f + 256 * Y6) (k4 : Y4 = e + 256 * Y5) (k3 : Y3 = d + 256 * Y4) (k2 : Y2 = c + 256 * Y3) (k1 : Y1 = b + 256 * Y2) (k0 : Y = a + 256 * Y1) : ∀ y4 y5 y6, y4 = (Y + Y / 256) % 18446744073709551616 → y5 = (y4 + y4 / 65536) % 18446744073709551616 → y6 = (y5 + y5 / 4294967296) % 18446744073709551616 → y6 % 128 = a + b + c + d + (e + f + g + i) := by
  have q1 : Y / 256 = Y1 := by rw [k0]; exact dv_a ha
  obtain ⟨b6, b5, b4, b3, b2, b1, bY⟩ := fold8l ha hb hc hd he hf hg hi k6 k5 k4 k3 k2 k1 k0
  obtain ⟨pb1, pb2⟩ := p_b ha hb hc hd he hf hg
  have l2 := i_2 k2 k1 k0
  have j3 := i_3 k4 k3 k2
  have j5 := i_5 k6 k5 k4
  have j6 := i_6 j3 j5
  have j7 := i_7 k6 k5 k4
  have sm : Y2 + Y3 ≤ 8865081987088 := Nat.le_trans (Nat.add_le_add b2 b3) (by decide)
  have sz : Y4 + Y5 + (Y6 + i) ≤ 135272480 := Nat.le_trans (Nat.add_le_add (Nat.add_le_add b4 b5) (Nat.add_le_add b6 hi)) (by decide)
  have s128 : a + b + c + d + (e + f + g + i) < 128 := s_128 ha hb hc hd he hf hg hi
  have l1 := lt_a bY b1
  have l3 := lt_b bY b1 sm
  have l5 := lt_c bY b1 sm sz
  have l4 : Y + Y1 + (Y2 + Y3) = ((a + b + c + d) + 256 * (b + c + d + e) + 65536 * (c + d + e + f) + 16777216 * (d + e + f + g)) + 4294967296 * (Y4 + Y5 + (Y6 + i)) := by rw [l2]; exact i_4 j6 j3
  have q2 : (Y + Y1) / 65536 = Y2 + Y3 := by rw [l2]; exact dv_b pb1
  have q3 : (Y + Y1 + (Y2 + Y3)) / 4294967296 = Y4 + Y5 + (Y6 + i) := by rw [l4]; exact dv_c pb2
  have q4 : (Y + Y1 + (Y2 + Y3) + (Y4 + Y5 + (Y6 + i))) % 128 = a + b + c + d + (e + f + g + i) := by
    rw [l4]
    have z := i_8 (p := a + b + c + d) (q := b + c + d + e) (r := c + d + e + f) (s := d + e + f + g) (u := Y4 + Y5 + (Y6 + i)) (v := e + f + g + i) (w := 2 * (Y5 + Y6 + i)) (x := 0)
    rw [← j7] at z
    rw [z]; exact md_z s128
  intro y4 y5 y6 h4 h5 h6
  rw [q1, Nat.mod_eq_of_lt l1] at h4
  subst h4
  rw [q2, Nat.mod_eq_of_lt l3] at h5
  subst h5
  rw [q3, Nat.mod_eq_of_lt l5] at h6
  subst h6
  exact q4
theorem us64 (x s : Int64) (k : Nat) (hs : ((s.toUInt64 &&& Int64.toUInt64 63).toBitVec % 64).toNat = k) : (x.toUInt64 >>> (s.toUInt64 &&& Int64.toUInt64 63)).toInt64.toBitVec.toNat = x.toBitVec.toNat / 2 ^ k := by
  have e : (x.toUInt64 >>> (s.toUInt64 &&& Int64.toUInt64 63)).toInt64.toBitVec = x.toBitVec >>> k := by
    rw [← hs]
    exact UInt64.toBitVec_shiftRight _ _
  rw [e, BitVec.toNat_ushiftRight, Nat.shiftRight_eq_div_pow]
theorem sub_md {X Q : Nat} (h : Q ≤ X) (hx : X < 18446744073709551616) : (18446744073709551616 - Q + X) % 18446744073709551616 = X - Q := by
  have e : 18446744073709551616 - Q + X = (X - Q) + 18446744073709551616 := by omega
  rw [e, Nat.add_mod_right, Nat.mod_eq_of_lt (by omega)]
theorem add_md {P Q : Nat} (h : P ≤ 3689348814741910323) (h2 : Q ≤ 3689348814741910323) : (P + Q) % 18446744073709551616 = P + Q ∧ P + Q ≤ 7378697629483820646 := ⟨Nat.mod_eq_of_lt (by omega), by omega⟩
theorem q16_md {y : Nat} (h : y ≤ 7378697629483820646) : (y + y / 16) % 18446744073709551616 = y + y / 16 := Nat.mod_eq_of_lt (by
  have : y / 16 ≤ y := Nat.div_le_self _ _
  omega)
theorem popL (x : Int64) : (fJLong_bitCount x).toBitVec.toNat = cbt x.toBitVec.toNat 64 0 ∧ cbt x.toBitVec.toNat 64 0 ≤ 64 := by
  have hx : x.toBitVec.toNat < 256 ^ 8 := x.toBitVec.isLt
  obtain ⟨X, hX⟩ : ∃ X, X = x.toBitVec.toNat := ⟨_, rfl⟩
  obtain ⟨k1, -⟩ := t123 8 X (hX ▸ hx)
  obtain ⟨x1, e1⟩ : ∃ x1, x1 = x - (((x.toUInt64 >>> ((1 : Int32).toInt64.toUInt64 &&& Int64.toUInt64 63)).toInt64) &&& (6148914691236517205 : Int64)) := ⟨_, rfl⟩
  obtain ⟨x2, e2⟩ : ∃ x2, x2 = (x1 &&& (3689348814741910323 : Int64)) + (((x1.toUInt64 >>> ((2 : Int32).toInt64.toUInt64 &&& Int64.toUInt64 63)).toInt64) &&& (3689348814741910323 : Int64)) := ⟨_, rfl⟩
  obtain ⟨x3, e3⟩ : ∃ x3, x3 = (x2 + ((x2.toUInt64 >>> ((4 : Int32).toInt64.toUInt64 &&& Int64.toUInt64 63)).toInt64)) &&& (1085102592571150095 : Int64) := ⟨_, rfl⟩
  obtain ⟨x4, e4⟩ : ∃ x4, x4 = x3 + ((x3.toUInt64 >>> ((8 : Int32).toInt64.toUInt64 &&& Int64.toUInt64 63)).toInt64) := ⟨_, rfl⟩
  obtain ⟨x5, e5⟩ : ∃ x5, x5 = x4 + ((x4.toUInt64 >>> ((16 : Int32).toInt64.toUInt64 &&& Int64.toUInt64 63)).toInt64) := ⟨_, rfl⟩
  obtain ⟨x6, e6⟩ : ∃ x6, x6 = x5 + ((x5.toUInt64 >>> ((32 : Int32).toInt64.toUInt64 &&& Int64.toUInt64 63)).toInt64) := ⟨_, rfl⟩
  have ef : fJLong_bitCount x = (x6.toInt32) &&& (127 : Int32) := by
    unfold fJLong_bitCount
    simp only [x_lt]
    rw [← e1, ← e2, ← e3, ← e4, ← e5, ← e6]
  have v1 : x1.toBitVec.toNat = t1 8 X := by
    have h1 : (X / 2) &&& mk8 85 8 ≤ X := Nat.le_trans Nat.and_le_left (Nat.div_le_self _ _)
    have h2 : X < 18446744073709551616 := hX ▸ hx
    rw [e1, Int64.toBitVec_sub, BitVec.toNat_sub, Int64.toBitVec_and, BitVec.toNat_and, us64 _ _ 1 (by decide +kernel), ← hX]
    exact sub_md h1 h2
  have v2 : x2.toBitVec.toNat = t2 8 (t1 8 X) ∧ t2 8 (t1 8 X) ≤ 7378697629483820646 := by
    have h1 : (t1 8 X) &&& mk8 51 8 ≤ mk8 51 8 := Nat.and_le_right
    have h2 : (t1 8 X / 4) &&& mk8 51 8 ≤ mk8 51 8 := Nat.and_le_right
    obtain ⟨z1, z2⟩ := add_md h1 h2
    refine ⟨?_, z2⟩
    rw [e2, Int64.toBitVec_add, BitVec.toNat_add, Int64.toBitVec_and, BitVec.toNat_and, Int64.toBitVec_and, BitVec.toNat_and, us64 _ _ 2 (by decide +kernel), v1]
    exact z1
  have v3 : x3.toBitVec.toNat = sS8 p4 X 8 := by
    rw [← k1, e3, Int64.toBitVec_and, BitVec.toNat_and, Int64.toBitVec_add, BitVec.toNat_add, us64 _ _ 4 (by decide +kernel), v2.1]
    exact congrArg (· &&& mk8 15 8) (q16_md v2.2)
  have v4 : x4.toBitVec.toNat = (sS8 p4 X 8 + sS8 p4 X 8 / 256) % 18446744073709551616 := by
    rw [e4, Int64.toBitVec_add, BitVec.toNat_add, us64 _ _ 8 (by decide +kernel), v3]
  have v5 : x5.toBitVec.toNat = (x4.toBitVec.toNat + x4.toBitVec.toNat / 65536) % 18446744073709551616 := by
    rw [e5, Int64.toBitVec_add, BitVec.toNat_add, us64 _ _ 16 (by decide +kernel)]
  have v6 : x6.toBitVec.toNat = (x5.toBitVec.toNat + x5.toBitVec.toNat / 4294967296) % 18446744073709551616 := by
    rw [e6, Int64.toBitVec_add, BitVec.toNat_add, us64 _ _ 32 (by decide +kernel)]
  have m8 : ∀ z, z % 256 < 256 := fun z => Nat.mod_lt _ (by omega)
  obtain ⟨X1, hX1⟩ : ∃ X1, X1 = X / 256 := ⟨_, rfl⟩
  obtain ⟨X2, hX2⟩ : ∃ X2, X2 = X1 / 256 := ⟨_, rfl⟩
  obtain ⟨X3, hX3⟩ : ∃ X3, X3 = X2 / 256 := ⟨_, rfl⟩
  obtain ⟨X4, hX4⟩ : ∃ X4, X4 = X3 / 256 := ⟨_, rfl⟩
  obtain ⟨X5, hX5⟩ : ∃ X5, X5 = X4 / 256 := ⟨_, rfl⟩
  obtain ⟨X6, hX6⟩ : ∃ X6, X6 = X5 / 256 := ⟨_, rfl⟩
  obtain ⟨X7, hX7⟩ : ∃ X7, X7 = X6 / 256 := ⟨_, rfl⟩
  have fin := fold8 (p4_le _ (m8 X)) (p4_le _ (m8 X1)) (p4_le _ (m8 X2)) (p4_le _ (m8 X3)) (p4_le _ (m8 X4)) (p4_le _ (m8 X5)) (p4_le _ (m8 X6)) (p4_le _ (m8 X7)) rfl rfl rfl rfl rfl rfl (show sS8 p4 X 8 = p4 (X % 256) + 256 * (p4 (X1 % 256) + 256 * (p4 (X2 % 256) + 256 * (p4 (X3 % 256) + 256 * (p4 (X4 % 256) + 256 * (p4 (X5 % 256) + 256 * (p4 (X6 % 256) + 256 * p4 (X7 % 256))))))) by
    simp only [sS8]
    rw [← hX1, ← hX2, ← hX3, ← hX4, ← hX5, ← hX6, ← hX7, Nat.mul_zero, Nat.add_zero]) _ _ _ v4 v5 v6
  have dc := dS_c 8 X
  have dsum : dS 8 X = p4 (X % 256) + p4 (X1 % 256) + p4 (X2 % 256) + p4 (X3 % 256) + (p4 (X4 % 256) + p4 (X5 % 256) + p4 (X6 % 256) + p4 (X7 % 256)) := by
    simp only [dS]
    rw [← hX1, ← hX2, ← hX3, ← hX4, ← hX5, ← hX6, ← hX7]; omega
  have le64 : cbt X 64 0 ≤ 64 := by
    have q0 := p4_le _ (m8 X)
    have q1 := p4_le _ (m8 X1)
    have q2 := p4_le _ (m8 X2)
    have q3 := p4_le _ (m8 X3)
    have q4 := p4_le _ (m8 X4)
    have q5 := p4_le _ (m8 X5)
    have q6 := p4_le _ (m8 X6)
    have q7 := p4_le _ (m8 X7)
    rw [show (64 : Nat) = 8 * 8 from rfl, ← dc, dsum]; omega
  rw [← hX]
  refine ⟨?_, le64⟩
  rw [ef, Int32.toBitVec_and, BitVec.toNat_and, show (127 : Int32).toBitVec.toNat = 2 ^ 7 - 1 by decide, Nat.and_two_pow_sub_one_eq_mod]
  show (x6.toInt32.toBitVec.toNat) % 128 = _
  have z : x6.toInt32.toBitVec.toNat = x6.toBitVec.toNat % 4294967296 := by
    rw [Int64.toBitVec_toInt32, BitVec.signExtend_eq_setWidth_of_le _ (by omega), BitVec.toNat_setWidth]
  rw [z, Nat.mod_mod_of_dvd _ (by decide : 128 ∣ 4294967296), fin, show (64 : Nat) = 8 * 8 from rfl, ← dc, dsum]

/-- the same, in 32 bits -/
theorem fold4 {a b c d Y : Nat} (ha : a ≤ 8) (hb : b ≤ 8) (hc : c ≤ 8) (hd : d ≤ 8) (k0 : Y = a + 256 * (b + 256 * (c + 256 * d))) : ∀ y4 y5, y4 = (Y + Y / 256) % 4294967296 → y5 = (y4 + y4 / 65536) % 4294967296 → y5 % 64 = a + b + c + d := by
  have q1 : Y / 256 = b + 256 * (c + 256 * d) := by rw [k0]; exact dv_a ha
  obtain ⟨Y1, h1⟩ : ∃ Y1, Y1 = b + 256 * (c + 256 * d) := ⟨_, rfl⟩
  rw [← h1] at q1 k0
  have b1 : Y1 ≤ 526344 := by omega
  have bY : Y ≤ 134744072 := by omega
  have e4 : Y + Y1 = ((a + b) + 256 * (b + c)) + 65536 * (c + d + 256 * d) := by omega
  have q2 : (Y + Y1) / 65536 = c + d + 256 * d := by rw [e4]; exact dv_b (by omega)
  have e5 : Y + Y1 + (c + d + 256 * d) = (a + b + c + d) + 64 * (4 * (b + c) + 1024 * (c + d + 256 * d) + 4 * d) := by omega
  intro y4 y5 h4 h5
  rw [q1, Nat.mod_eq_of_lt (by omega)] at h4
  subst h4
  rw [q2, Nat.mod_eq_of_lt (by omega)] at h5
  subst h5
  rw [e5, Nat.add_mul_mod_self_left, Nat.mod_eq_of_lt (by omega)]
theorem sub_m2 {X Q : Nat} (h : Q ≤ X) (hx : X < 4294967296) : (4294967296 - Q + X) % 4294967296 = X - Q := by
  have e : 4294967296 - Q + X = (X - Q) + 4294967296 := by omega
  rw [e, Nat.add_mod_right, Nat.mod_eq_of_lt (by omega)]
theorem popI (x : Int32) : (fJInteger_bitCount x).toBitVec.toNat = cbt x.toBitVec.toNat 32 0 ∧ cbt x.toBitVec.toNat 32 0 ≤ 32 := by
  have hx : x.toBitVec.toNat < 256 ^ 4 := x.toBitVec.isLt
  obtain ⟨X, hX⟩ : ∃ X, X = x.toBitVec.toNat := ⟨_, rfl⟩
  obtain ⟨k1, -⟩ := t123 4 X (hX ▸ hx)
  obtain ⟨x1, e1⟩ : ∃ x1, x1 = x - (((x.toUInt32 >>> ((1 : Int32).toUInt32 &&& Int32.toUInt32 31)).toInt32) &&& (1431655765 : Int32)) := ⟨_, rfl⟩
  obtain ⟨x2, e2⟩ : ∃ x2, x2 = (x1 &&& (858993459 : Int32)) + (((x1.toUInt32 >>> ((2 : Int32).toUInt32 &&& Int32.toUInt32 31)).toInt32) &&& (858993459 : Int32)) := ⟨_, rfl⟩
  obtain ⟨x3, e3⟩ : ∃ x3, x3 = (x2 + ((x2.toUInt32 >>> ((4 : Int32).toUInt32 &&& Int32.toUInt32 31)).toInt32)) &&& (252645135 : Int32) := ⟨_, rfl⟩
  obtain ⟨x4, e4⟩ : ∃ x4, x4 = x3 + ((x3.toUInt32 >>> ((8 : Int32).toUInt32 &&& Int32.toUInt32 31)).toInt32) := ⟨_, rfl⟩
  obtain ⟨x5, e5⟩ : ∃ x5, x5 = x4 + ((x4.toUInt32 >>> ((16 : Int32).toUInt32 &&& Int32.toUInt32 31)).toInt32) := ⟨_, rfl⟩
  have ef : fJInteger_bitCount x = x5 &&& (63 : Int32) := by
    unfold fJInteger_bitCount
    simp only [x_lt]
    rw [← e1, ← e2, ← e3, ← e4, ← e5]
  have v1 : x1.toBitVec.toNat = t1 4 X := by
    have h1 : (X / 2) &&& mk8 85 4 ≤ X := Nat.le_trans Nat.and_le_left (Nat.div_le_self _ _)
    have h2 : X < 4294967296 := hX ▸ hx
    rw [e1, Int32.toBitVec_sub, BitVec.toNat_sub, Int32.toBitVec_and, BitVec.toNat_and, pk_ushr _ _ 1 (by decide +kernel), ← hX]
    exact sub_m2 h1 h2
  have v2 : x2.toBitVec.toNat = t2 4 (t1 4 X) ∧ t2 4 (t1 4 X) ≤ 1717986918 := by
    have h1 : (t1 4 X) &&& mk8 51 4 ≤ mk8 51 4 := Nat.and_le_right
    have h2 : (t1 4 X / 4) &&& mk8 51 4 ≤ mk8 51 4 := Nat.and_le_right
    have z2 : t2 4 (t1 4 X) ≤ 1717986918 := Nat.le_trans (Nat.add_le_add h1 h2) (by decide)
    refine ⟨?_, z2⟩
    rw [e2, Int32.toBitVec_add, BitVec.toNat_add, Int32.toBitVec_and, BitVec.toNat_and, Int32.toBitVec_and, BitVec.toNat_and, pk_ushr _ _ 2 (by decide +kernel), v1]
    exact Nat.mod_eq_of_lt (Nat.lt_of_le_of_lt z2 (by decide))
  have v3 : x3.toBitVec.toNat = sS8 p4 X 4 := by
    rw [← k1, e3, Int32.toBitVec_and, BitVec.toNat_and, Int32.toBitVec_add, BitVec.toNat_add, pk_ushr _ _ 4 (by decide +kernel), v2.1]
    refine congrArg (· &&& mk8 15 4) (Nat.mod_eq_of_lt ?_)
    have : t2 4 (t1 4 X) / 16 ≤ t2 4 (t1 4 X) := Nat.div_le_self _ _
    exact Nat.lt_of_le_of_lt (Nat.add_le_add v2.2 (Nat.le_trans this v2.2)) (by decide)
  have v4 : x4.toBitVec.toNat = (sS8 p4 X 4 + sS8 p4 X 4 / 256) % 4294967296 := by
    rw [e4, Int32.toBitVec_add, BitVec.toNat_add, pk_ushr _ _ 8 (by decide +kernel), v3]
  have v5 : x5.toBitVec.toNat = (x4.toBitVec.toNat + x4.toBitVec.toNat / 65536) % 4294967296 := by
    rw [e5, Int32.toBitVec_add, BitVec.toNat_add, pk_ushr _ _ 16 (by decide +kernel)]
  have m8 : ∀ z, z % 256 < 256 := fun z => Nat.mod_lt _ (by omega)
  obtain ⟨X1, hX1⟩ : ∃ X1, X1 = X / 256 := ⟨_, rfl⟩
  obtain ⟨X2, hX2⟩ : ∃ X2, X2 = X1 / 256 := ⟨_, rfl⟩
  obtain ⟨X3, hX3⟩ : ∃ X3, X3 = X2 / 256 := ⟨_, rfl⟩
  have fin := fold4 (p4_le _ (m8 X)) (p4_le _ (m8 X1)) (p4_le _ (m8 X2)) (p4_le _ (m8 X3)) (show sS8 p4 X 4 = p4 (X % 256) + 256 * (p4 (X1 % 256) + 256 * (p4 (X2 % 256) + 256 * p4 (X3 % 256))) by
    simp only [sS8]
    rw [← hX1, ← hX2, ← hX3, Nat.mul_zero, Nat.add_zero]) _ _ v4 v5
  have dc := dS_c 4 X
  have dsum : dS 4 X = p4 (X % 256) + p4 (X1 % 256) + p4 (X2 % 256) + p4 (X3 % 256) := by
    simp only [dS]
    rw [← hX1, ← hX2, ← hX3]; omega
  have le32 : cbt X 32 0 ≤ 32 := by
    have q0 := p4_le _ (m8 X)
    have q1 := p4_le _ (m8 X1)
    have q2 := p4_le _ (m8 X2)
    have q3 := p4_le _ (m8 X3)
    rw [show (32 : Nat) = 8 * 4 from rfl, ← dc, dsum]; omega
  rw [← hX]
  refine ⟨?_, le32⟩
  rw [ef, Int32.toBitVec_and, BitVec.toNat_and, show (63 : Int32).toBitVec.toNat = 2 ^ 6 - 1 by decide, Nat.and_two_pow_sub_one_eq_mod]
  show x5.toBitVec.toNat % 64 = _
  rw [fin, show (32 : Nat) = 8 * 4 from rfl, ← dc, dsum]
/-- both as the reference counts -/
def cL6 (x : Int64) : Nat → Nat → Nat
  | 0, _ => 0
  | d + 1, i => (if bL x i = true then 1 else 0) + cL6 x d (i + 1)
theorem cL6_c (x : Int64) : ∀ d i, cL6 x d i = cbt x.toBitVec.toNat d i := by
  intro d
  induction d with
  | zero => exact fun i => rfl
  | succ d ih => intro i; simp only [cL6, cbt, ih]; rfl
theorem cb_c (x : Int32) : ∀ d i, cb x d i = cbt x.toBitVec.toNat d i := by
  intro d
  induction d with
  | zero => exact fun i => rfl
  | succ d ih => intro i; simp only [cb, cbt, ih]; rfl
theorem cb_sp (x : Int32) : ∀ a b i, cb x (a + b) i = cb x a i + cb x b (i + a) := by
  intro a b i; rw [cb_c, cb_c, cb_c, cbt_app]
theorem cb_no {x : Int32} : ∀ d i, (∀ k, i ≤ k → bI x k = false) → cb x d i = 0 := by
  intro d
  induction d with
  | zero => exact fun i _ => rfl
  | succ d ih => intro i h; simp only [cb]; rw [h i (Nat.le_refl _), ih (i + 1) (fun k hk => h k (by omega))]; rfl
theorem bcL (x : Int64) : fJLong_bitCount x = nI (cL6 x 64 0) := by
  obtain ⟨h1, h2⟩ := popL x
  refine Int32.toBitVec_inj.mp (BitVec.eq_of_toNat_eq ?_)
  rw [h1, cL6_c, pk_tn (by omega)]
theorem bcI {x : Int32} (hx : dOk x) : fJInteger_bitCount x = nI (cb x 15 0) := by
  obtain ⟨h1, h2⟩ := popI x
  have e : cb x 32 0 = cb x 15 0 := by
    rw [show (32 : Nat) = 15 + 17 from rfl, cb_sp, cb_no 17 (0 + 15) (fun k hk => by
      cases hb : bI x k with
      | false => rfl
      | true => have := hx k hb; omega)]; rfl
  refine Int32.toBitVec_inj.mp (BitVec.eq_of_toNat_eq ?_)
  rw [← cb_c, e] at h2
  rw [h1, ← cb_c, e, pk_tn (by omega)]
