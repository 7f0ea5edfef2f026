/-! ===== the characters of a call in its number ===== -/
def cbt (b : Nat → Int32) (l k : Nat) : Nat := if k < l then (b (l - 1 - k)).toInt.toNat else 0
theorem cvN_byte {b : Nat → Int32} : ∀ l k, allB clB b l 0 = true → cvN b l 0 0 / 256 ^ k % 256 = cbt b l k := by
  intro l
  induction l with
  | zero =>
    intro k _
    show 0 / 256 ^ k % 256 = _
    rw [Nat.zero_div]
    rfl
  | succ l ih =>
    intro k h
    obtain ⟨h1, h2⟩ := allB_snoc h
    rw [Nat.zero_add] at h2
    have hc := clB_bd h2
    rw [cvN_snoc, Nat.zero_add]
    cases k with
    | zero =>
      unfold cbt
      rw [if_pos (by omega), Nat.pow_zero, Nat.div_one, show l + 1 - 1 - 0 = l by omega]
      omega
    | succ k =>
      have e : (cvN b l 0 0 * 256 + (b l).toInt.toNat) / 256 ^ (k + 1) = cvN b l 0 0 / 256 ^ k := by
        rw [Nat.pow_succ, Nat.mul_comm (256 ^ k) 256, ← Nat.div_div_eq_div_mul]
        congr 1
        omega
      rw [e, ih k h1]
      unfold cbt
      by_cases c : k < l
      · rw [if_pos c, if_pos (by omega), show l + 1 - 1 - (k + 1) = l - 1 - k by omega]
      · rw [if_neg c, if_neg (by omega)]
theorem o64 (v : Nat) : (Int64.ofNat v).toUInt64 = UInt64.ofNat v := rfl
theorem sh64 {k : Nat} (hk : k < 6) : ((nI (8 * k)).toInt64.toUInt64 &&& Int64.toUInt64 63) = UInt64.ofNat (8 * k) := by
  rcases (show k = 0 ∨ k = 1 ∨ k = 2 ∨ k = 3 ∨ k = 4 ∨ k = 5 by omega) with q | q | q | q | q | q <;> subst q <;> decide
theorem u64_inj {a b : Nat} (ha : a < 18446744073709551616) (hb : b < 18446744073709551616) : (UInt64.ofNat a).toInt64 = (UInt64.ofNat b).toInt64 ↔ a = b := by
  constructor
  · intro h
    have h2 : UInt64.ofNat a = UInt64.ofNat b := congrArg Int64.toUInt64 h
    have := congrArg UInt64.toNat h2
    rw [UInt64.toNat_ofNat', UInt64.toNat_ofNat', Nat.mod_eq_of_lt ha, Nat.mod_eq_of_lt hb] at this
    exact this
  · intro h
    rw [h]
theorem shr64 {v k : Nat} (hv : v < 281474976710656) (hk : k < 6) : ((Int64.ofNat v).toUInt64 >>> ((nI (8 * k)).toInt64.toUInt64 &&& Int64.toUInt64 63)).toInt64 = (UInt64.ofNat (v / 256 ^ k)).toInt64 := by
  rw [o64, sh64 hk]
  congr 1
  apply UInt64.toNat_inj.mp
  have hp : 256 ^ k = 2 ^ (8 * k) := by
    rw [show (256 : Nat) = 2 ^ 8 from rfl, ← Nat.pow_mul]
  have hd : v / 256 ^ k ≤ v := Nat.div_le_self _ _
  rw [UInt64.toNat_shiftRight, UInt64.toNat_ofNat', UInt64.toNat_ofNat', UInt64.toNat_ofNat', Nat.mod_eq_of_lt (show v < 2 ^ 64 by omega), Nat.mod_eq_of_lt (show 8 * k < 2 ^ 64 by omega), Nat.mod_eq_of_lt (show 8 * k < 64 by omega), Nat.mod_eq_of_lt (show v / 256 ^ k < 2 ^ 64 by omega), Nat.shiftRight_eq_div_pow, hp]
theorem and64 {v : Nat} (hv : v < 281474976710656) : (UInt64.ofNat v).toInt64 &&& 255 = (UInt64.ofNat (v % 256)).toInt64 := by
  have e : (255 : Int64) = (UInt64.ofNat 255).toInt64 := by decide
  have : UInt64.ofNat v &&& UInt64.ofNat 255 = UInt64.ofNat (v % 256) := by
    apply UInt64.toNat_inj.mp
    rw [UInt64.toNat_and, UInt64.toNat_ofNat', UInt64.toNat_ofNat', UInt64.toNat_ofNat', Nat.mod_eq_of_lt (show v < 2 ^ 64 by omega), Nat.mod_eq_of_lt (show v % 256 < 2 ^ 64 by omega), show 255 % 2 ^ 64 = 2 ^ 8 - 1 from rfl, Nat.and_two_pow_sub_one_eq_mod]
  rw [e, ← this]
  rfl
theorem and32 {v : Nat} (hv : v < 281474976710656) : (UInt64.ofNat v).toInt64.toInt32 &&& 255 = nI (v % 256) := by
  apply Int32.toBitVec_inj.mp
  have e1 : ((UInt64.ofNat v).toInt64.toInt32 &&& 255).toBitVec = ((BitVec.ofNat 64 v).signExtend 32) &&& BitVec.ofNat 32 255 := rfl
  have e2 : (nI (v % 256)).toBitVec = BitVec.ofNat 32 (v % 256) := rfl
  rw [e1, e2]
  apply BitVec.eq_of_toNat_eq
  rw [BitVec.toNat_and, BitVec.signExtend_eq_setWidth_of_le _ (by decide), BitVec.toNat_setWidth, BitVec.toNat_ofNat, BitVec.toNat_ofNat, BitVec.toNat_ofNat, Nat.mod_eq_of_lt (show v < 2 ^ 64 by omega), Nat.mod_eq_of_lt (show v % 256 < 2 ^ 32 by omega), show 255 % 2 ^ 32 = 2 ^ 8 - 1 from rfl, Nat.and_two_pow_sub_one_eq_mod]
  omega
