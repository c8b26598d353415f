/-! bits of ints and longs, as the class asks for them and as the reference does -/
def bI (x : Int32) (k : Nat) : Bool := x.toBitVec.getLsbD k
def bL (x : Int64) (k : Nat) : Bool := x.toBitVec.getLsbD k
def pI (k : Nat) : Int32 := (1 : Int32) <<< (nI k &&& 31)
def pL (k : Nat) : Int64 := (1 : Int64) <<< ((nI k).toInt64 &&& 63)
theorem pI_tp : ∀ k, k < 32 → (pI k).toBitVec = BitVec.twoPow 32 k := by decide +kernel
theorem pL_tp : ∀ k, k < 64 → (pL k).toBitVec = BitVec.twoPow 64 k := by decide +kernel
theorem sI_k : ∀ k, k < 32 → ((nI k &&& 31).toBitVec.smod 32).toNat = k := by decide +kernel
theorem sL_k : ∀ k, k < 64 → (((nI k).toInt64 &&& 63).toBitVec.smod 64).toNat = k := by decide +kernel
theorem tpI_ne : ∀ k, k < 32 → BitVec.twoPow 32 k ≠ 0#32 := by decide +kernel
theorem tpL_ne : ∀ k, k < 64 → BitVec.twoPow 64 k ≠ 0#64 := by decide +kernel
theorem cI {x : Int32} {k : Nat} (hk : k < 32) : (x &&& ((1 : Int32) <<< (nI k &&& 31)) = 0) = (bI x k = false) := by
  have e : ((x &&& ((1 : Int32) <<< (nI k &&& 31))) = 0) ↔ (x.toBitVec &&& BitVec.twoPow 32 k = 0#32) := by
    rw [← Int32.toBitVec_inj, Int32.toBitVec_and, show ((1 : Int32) <<< (nI k &&& 31)).toBitVec = BitVec.twoPow 32 k from pI_tp k hk]; rfl
  rw [e, BitVec.and_twoPow]
  unfold bI
  cases hq : x.toBitVec.getLsbD k with
  | true => simp [tpI_ne k hk]
  | false => simp
theorem cL {x : Int64} {k : Nat} (hk : k < 64) : (lg_cmp (x &&& ((1 : Int64) <<< ((nI k).toInt64 &&& 63))) 0 = 0) = (bL x k = false) := by
  have e : (lg_cmp (x &&& ((1 : Int64) <<< ((nI k).toInt64 &&& 63))) 0 = 0) ↔ (x.toBitVec &&& BitVec.twoPow 64 k = 0#64) := by
    rw [lg_cmp_eq, ← Int64.toBitVec_inj, Int64.toBitVec_and, show ((1 : Int64) <<< ((nI k).toInt64 &&& 63)).toBitVec = BitVec.twoPow 64 k from pL_tp k hk]; rfl
  rw [e, BitVec.and_twoPow]
  unfold bL
  cases hq : x.toBitVec.getLsbD k with
  | true => simp [tpL_ne k hk]
  | false => simp
theorem and1_32 (y : BitVec 32) : (y &&& 1#32 = 1#32) = (y.getLsbD 0 = true) := by
  have e : (1#32) = BitVec.twoPow 32 0 := by decide +kernel
  rw [e, BitVec.and_twoPow]
  cases hq : y.getLsbD 0 with
  | true => simp
  | false => simp only [Bool.false_eq_true, if_false, eq_iff_iff, iff_false]; decide +kernel
theorem and1_64 (y : BitVec 64) : (y &&& 1#64 = 1#64) = (y.getLsbD 0 = true) := by
  have e : (1#64) = BitVec.twoPow 64 0 := by decide +kernel
  rw [e, BitVec.and_twoPow]
  cases hq : y.getLsbD 0 with
  | true => simp
  | false => simp only [Bool.false_eq_true, if_false, eq_iff_iff, iff_false]; decide +kernel
theorem mhas {x : Int32} {k : Nat} (hk : k < 32) : f11_has x (nI k) = if bI x k = true then 1 else 0 := by
  have e : (((x >>> (nI k &&& 31)) &&& (1 : Int32)) = 1) = (bI x k = true) := by
    have e1 : (((x >>> (nI k &&& 31)) &&& (1 : Int32)) = 1) ↔ ((x >>> (nI k &&& 31)).toBitVec &&& 1#32 = 1#32) := by
      rw [← Int32.toBitVec_inj, Int32.toBitVec_and]; rfl
    rw [e1, and1_32, Int32.toBitVec_shiftRight, BitVec.getLsbD_sshiftRight', sI_k k hk]
    unfold bI
    simp [hk]
  unfold f11_has
  simp only [e]
theorem mhasL {x : Int64} {k : Nat} (hk : k < 64) : f11_hasL x (nI k) = if bL x k = true then 1 else 0 := by
  have e : (lg_cmp ((x >>> ((nI k).toInt64 &&& 63)) &&& (1 : Int64)) 1 = 0) = (bL x k = true) := by
    have e1 : (lg_cmp ((x >>> ((nI k).toInt64 &&& 63)) &&& (1 : Int64)) 1 = 0) ↔ ((x >>> ((nI k).toInt64 &&& 63)).toBitVec &&& 1#64 = 1#64) := by
      rw [lg_cmp_eq, ← Int64.toBitVec_inj, Int64.toBitVec_and]; rfl
    rw [e1, and1_64, Int64.toBitVec_shiftRight, BitVec.getLsbD_sshiftRight', sL_k k hk]
    unfold bL
    simp [hk]
  unfold f11_hasL
  simp only [e]
theorem bI_or {x y : Int32} {k : Nat} : bI (x ||| y) k = (bI x k || bI y k) := by
  unfold bI; rw [Int32.toBitVec_or, BitVec.getLsbD_or]
theorem bL_or {x y : Int64} {k : Nat} : bL (x ||| y) k = (bL x k || bL y k) := by
  unfold bL; rw [Int64.toBitVec_or, BitVec.getLsbD_or]
theorem bI_p {i k : Nat} (hi : i < 32) : bI ((1 : Int32) <<< (nI i &&& 31)) k = decide (i = k) := by
  unfold bI
  rw [show ((1 : Int32) <<< (nI i &&& 31)).toBitVec = BitVec.twoPow 32 i from pI_tp i hi, BitVec.getLsbD_twoPow]
  simp [hi]
theorem bL_p {i k : Nat} (hi : i < 64) : bL ((1 : Int64) <<< ((nI i).toInt64 &&& 63)) k = decide (i = k) := by
  unfold bL
  rw [show ((1 : Int64) <<< ((nI i).toInt64 &&& 63)).toBitVec = BitVec.twoPow 64 i from pL_tp i hi, BitVec.getLsbD_twoPow]
  simp [hi]
theorem bI_0 {k : Nat} : bI 0 k = false := by unfold bI; simp
theorem bL_0 {k : Nat} : bL 0 k = false := by unfold bL; simp
theorem bI_32 {x : Int32} {k : Nat} (hk : 32 ≤ k) : bI x k = false := by unfold bI; exact BitVec.getLsbD_of_ge _ _ hk
theorem bL_64 {x : Int64} {k : Nat} (hk : 64 ≤ k) : bL x k = false := by unfold bL; exact BitVec.getLsbD_of_ge _ _ hk
theorem bI_xor {x : Int32} {i k : Nat} (hi : i < 32) : bI (x ^^^ ((1 : Int32) <<< (nI i &&& 31))) k = (bI x k ^^ decide (i = k)) := by
  unfold bI
  rw [Int32.toBitVec_xor, BitVec.getLsbD_xor, show ((1 : Int32) <<< (nI i &&& 31)).toBitVec = BitVec.twoPow 32 i from pI_tp i hi, BitVec.getLsbD_twoPow]
  simp [hi]
theorem bI_ext {x y : Int32} (hb : ∀ k, k < 32 → bI x k = bI y k) : x = y := Int32.toBitVec_inj.mp (BitVec.eq_of_getLsbD_eq_iff.mpr hb)
theorem bL_ext {x y : Int64} (hb : ∀ k, k < 64 → bL x k = bL y k) : x = y := Int64.toBitVec_inj.mp (BitVec.eq_of_getLsbD_eq_iff.mpr hb)
theorem bI_nt {x : Int32} {k : Nat} (hk : k < 32) : bI (x ^^^ -1) k = !(bI x k) := by
  unfold bI
  rw [Int32.toBitVec_xor, BitVec.getLsbD_xor, show (-1 : Int32).toBitVec = BitVec.allOnes 32 from by decide +kernel, BitVec.getLsbD_allOnes]
  simp [hk]
theorem bI_and {x y : Int32} {k : Nat} : bI (x &&& y) k = (bI x k && bI y k) := by
  unfold bI; rw [Int32.toBitVec_and, BitVec.getLsbD_and]
/-- a link that goes down, or up again -/
theorem x_cut {x : Int32} {l : Nat} (hl : l < 32) (hb : bI x l = false) : x ||| ((1 : Int32) <<< (nI l &&& 31)) = x ^^^ ((1 : Int32) <<< (nI l &&& 31)) := by
  refine bI_ext (fun k hk => ?_)
  rw [bI_or, bI_xor hl, bI_p hl]
  by_cases e : l = k
  · subst e; simp [hb]
  · simp [e]
theorem x_mend {x : Int32} {l : Nat} (hl : l < 32) (hb : bI x l = true) : x &&& (((1 : Int32) <<< (nI l &&& 31)) ^^^ -1) = x ^^^ ((1 : Int32) <<< (nI l &&& 31)) := by
  refine bI_ext (fun k hk => ?_)
  rw [bI_and, bI_nt hk, bI_xor hl, bI_p hl]
  by_cases e : l = k
  · subst e; simp [hb]
  · simp [e]
