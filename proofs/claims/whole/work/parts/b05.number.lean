/-! a word's number by its bytes -/
theorem sh255 {w k : Nat} (hw : w < 4294967296) (s : Int32) (hs : ((s.toInt64 &&& 63).toBitVec.smod 64).toNat = k) (hk : k ≤ 24) : ((lN w >>> (s.toInt64 &&& 63)) &&& (255 : Int64)).toInt32 = nI (w / 2 ^ k % 256) := by
  have a1 : (lN w).toBitVec.toNat = w := by
    show (BitVec.ofNat 64 w).toNat = w
    rw [BitVec.toNat_ofNat]; exact Nat.mod_eq_of_lt (by omega)
  have e1 : (lN w >>> (s.toInt64 &&& 63)) &&& (255 : Int64) = lN (w / 2 ^ k % 256) := by
    apply Int64.toBitVec_inj.mp
    have e2 : ((lN w >>> (s.toInt64 &&& 63)) &&& (255 : Int64)).toBitVec = ((lN w).toBitVec.sshiftRight ((s.toInt64 &&& 63).toBitVec.smod 64).toNat) &&& 255#64 := by
      rw [Int64.toBitVec_and, Int64.toBitVec_shiftRight]; rfl
    rw [e2, hs]
    apply BitVec.eq_of_toNat_eq
    have hm : (lN w).toBitVec.msb = false := by
      rw [BitVec.msb_eq_decide, a1]; simp; omega
    have a3 : (lN (w / 2 ^ k % 256)).toBitVec.toNat = w / 2 ^ k % 256 := by
      show (BitVec.ofNat 64 (w / 2 ^ k % 256)).toNat = w / 2 ^ k % 256
      rw [BitVec.toNat_ofNat]; exact Nat.mod_eq_of_lt (by omega)
    rw [a3, BitVec.toNat_and, BitVec.sshiftRight_eq_of_msb_false hm, BitVec.toNat_ushiftRight, a1, Nat.shiftRight_eq_div_pow]
    show w / 2 ^ k &&& (2 ^ 8 - 1) = _
    rw [Nat.and_two_pow_sub_one_eq_mod]
  rw [e1, lN_i]
section Numb
variable {K : Ly} {n b : Nat} {h : Hp} {t : Nat → Int32}
def nuS (w : Int64) (s : Int32) (y : Int32) : Int32 := if ((w >>> (s.toInt64 &&& 63)) &&& (255 : Int64)).toInt32 = 0 then y else (27 : Int32) * y + ((w >>> (s.toInt64 &&& 63)) &&& (255 : Int64)).toInt32 - (96 : Int32)
theorem numb_eq (w : Int64) (hn : 10 ≤ n) : f11_numberOf K n w h = some (nuS w 0 (nuS w 8 (nuS w 16 (nuS w 24 0)))) := by
  obtain ⟨n', rfl⟩ : ∃ n', n = n' + 1 + 1 + 1 + 1 + 1 := ⟨n - 5, by omega⟩
  unfold f11_numberOf
  rw [f11_numberOf_L5, if_neg (show ¬ (24 : Int32) < 0 by decide), x_lt, f11_numberOf_J38, x_lt, show (24 : Int32) + (-8 : Int32) = 16 from rfl]
  rw [f11_numberOf_L5, if_neg (show ¬ (16 : Int32) < 0 by decide), x_lt, f11_numberOf_J38, x_lt, show (16 : Int32) + (-8 : Int32) = 8 from rfl]
  rw [f11_numberOf_L5, if_neg (show ¬ (8 : Int32) < 0 by decide), x_lt, f11_numberOf_J38, x_lt, show (8 : Int32) + (-8 : Int32) = 0 from rfl]
  rw [f11_numberOf_L5, if_neg (show ¬ (0 : Int32) < 0 by decide), x_lt, f11_numberOf_J38, x_lt]
  rw [f11_numberOf_L5, if_pos (show (0 : Int32) + (-8 : Int32) < 0 by decide)]
  rfl
theorem nuS_0 {w k : Nat} {s y : Int32} (hw : w < 4294967296) (hs : ((s.toInt64 &&& 63).toBitVec.smod 64).toNat = k) (hk : k ≤ 24) (h0 : w / 2 ^ k % 256 = 0) : nuS (lN w) s y = y := by
  unfold nuS
  rw [sh255 hw s hs hk, h0, if_pos nI_0]
theorem nuS_c {w k c y : Nat} {s : Int32} (hw : w < 4294967296) (hs : ((s.toInt64 &&& 63).toBitVec.smod 64).toNat = k) (hk : k ≤ 24) (h0 : w / 2 ^ k % 256 = c) (hc : 97 ≤ c ∧ c ≤ 122) : nuS (lN w) s (nI y) = nI (27 * y + (c - 96)) := by
  unfold nuS
  rw [sh255 hw s hs hk, h0, if_neg (nI_ne0 (by omega) (by omega)), l_27, pk_mul, nI_add, show (96 : Int32) = nI 96 from rfl, pk_sub (by omega)]
  congr 1
  omega
theorem numb {k : Nat} (hk0 : 0 < k) (hk : k ≤ 4) (hn : 10 ≤ n) (hL : ∀ i, b ≤ i → i < b + k → 97 ≤ cz (t i) ∧ cz (t i) ≤ 122) : f11_numberOf K n (lN (wB t b k)) h = some (nI (wN t b k)) := by
  have s24 : (((24 : Int32).toInt64 &&& 63).toBitVec.smod 64).toNat = 24 := by decide
  have s16 : (((16 : Int32).toInt64 &&& 63).toBitVec.smod 64).toNat = 16 := by decide
  have s8 : (((8 : Int32).toInt64 &&& 63).toBitVec.smod 64).toNat = 8 := by decide
  have s0 : (((0 : Int32).toInt64 &&& 63).toBitVec.smod 64).toNat = 0 := by decide
  have p24 : 2 ^ 24 = 16777216 := rfl
  have p16 : 2 ^ 16 = 65536 := rfl
  have p8 : 2 ^ 8 = 256 := rfl
  have p0 : 2 ^ 0 = 1 := rfl
  rw [numb_eq _ hn, l_0]
  have c0 := hL b (by omega) (by omega)
  rcases (show k = 1 ∨ k = 2 ∨ k = 3 ∨ k = 4 by omega) with rfl | rfl | rfl | rfl
  · have e : wB t b 1 = cz (t b) := by simp [wB]
    have e' : wN t b 1 = 27 * 0 + (cz (t b) - 96) := by simp [wN]
    rw [e, e', nuS_0 (by omega) s24 (by omega) (by rw [p24]; omega), nuS_0 (by omega) s16 (by omega) (by rw [p16]; omega), nuS_0 (by omega) s8 (by omega) (by rw [p8]; omega)]
    exact congrArg some (nuS_c (by omega) s0 (by omega) (by rw [p0]; omega) c0)
  · have c1 := hL (b + 1) (by omega) (by omega)
    have e : wB t b 2 = 256 * cz (t b) + cz (t (b + 1)) := by simp [wB]
    have e' : wN t b 2 = 27 * (27 * 0 + (cz (t b) - 96)) + (cz (t (b + 1)) - 96) := by simp [wN]
    rw [e, e', nuS_0 (by omega) s24 (by omega) (by rw [p24]; omega), nuS_0 (by omega) s16 (by omega) (by rw [p16]; omega), nuS_c (by omega) s8 (by omega) (by rw [p8]; omega) c0]
    exact congrArg some (nuS_c (by omega) s0 (by omega) (by rw [p0]; omega) c1)
  · have c1 := hL (b + 1) (by omega) (by omega)
    have c2 := hL (b + 2) (by omega) (by omega)
    have e : wB t b 3 = 256 * (256 * cz (t b) + cz (t (b + 1))) + cz (t (b + 2)) := by simp [wB]
    have e' : wN t b 3 = 27 * (27 * (27 * 0 + (cz (t b) - 96)) + (cz (t (b + 1)) - 96)) + (cz (t (b + 2)) - 96) := by simp [wN]
    rw [e, e', nuS_0 (by omega) s24 (by omega) (by rw [p24]; omega), nuS_c (by omega) s16 (by omega) (by rw [p16]; omega) c0, nuS_c (by omega) s8 (by omega) (by rw [p8]; omega) c1]
    exact congrArg some (nuS_c (by omega) s0 (by omega) (by rw [p0]; omega) c2)
  · have c1 := hL (b + 1) (by omega) (by omega)
    have c2 := hL (b + 2) (by omega) (by omega)
    have c3 := hL (b + 3) (by omega) (by omega)
    have e : wB t b 4 = 256 * (256 * (256 * cz (t b) + cz (t (b + 1))) + cz (t (b + 2))) + cz (t (b + 3)) := by simp [wB]
    have e' : wN t b 4 = 27 * (27 * (27 * (27 * 0 + (cz (t b) - 96)) + (cz (t (b + 1)) - 96)) + (cz (t (b + 2)) - 96)) + (cz (t (b + 3)) - 96) := by simp [wN]
    rw [e, e', nuS_c (by omega) s24 (by omega) (by rw [p24]; omega) c0, nuS_c (by omega) s16 (by omega) (by rw [p16]; omega) c1, nuS_c (by omega) s8 (by omega) (by rw [p8]; omega) c2]
    exact congrArg some (nuS_c (by omega) s0 (by omega) (by rw [p0]; omega) c3)
end Numb
