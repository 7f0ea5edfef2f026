/-! ===== how many bits a long has ===== -/
theorem n_and {y d a c : Nat} (ha : a < 256) (hc : c < 256) : (256 * y + a) &&& (256 * d + c) = 256 * (y &&& d) + (a &&& c) := by
  have hac : a &&& c < 2 ^ 8 := Nat.and_lt_two_pow a hc
  apply Nat.eq_of_testBit_eq
  intro i
  rw [Nat.testBit_and, show (256 : Nat) = 2 ^ 8 from rfl, Nat.testBit_two_pow_mul_add y (show a < 2 ^ 8 from ha), Nat.testBit_two_pow_mul_add d (show c < 2 ^ 8 from hc), Nat.testBit_two_pow_mul_add (y &&& d) hac]
  by_cases h : i < 8
  · rw [if_pos h, if_pos h, if_pos h, Nat.testBit_and]
  · rw [if_neg h, if_neg h, if_neg h, Nat.testBit_and]
def bv : List Nat → Nat
  | [] => 0
  | a :: l => 256 * bv l + a
def msk (c : Nat) : Nat → Nat
  | 0 => 0
  | k + 1 => 256 * msk c k + c
def p1 (a : Nat) : Nat := a - ((a / 2) &&& 85)
def p2 (a : Nat) : Nat := (a &&& 51) + ((a / 4) &&& 51)
def p3 (a : Nat) : Nat := (a + a / 16) &&& 15
theorem and_le_l (a b : Nat) : a &&& b ≤ a := by
  exact Nat.and_le_left
theorem z_and (b : Nat) : 0 &&& b = 0 := by
  have := and_le_l 0 b
  omega
theorem m55 : ∀ t, t < 2 → ∀ a, a < 256 → (128 * t + a / 2) &&& 85 = (a / 2) &&& 85 := by decide +kernel
theorem m33 : ∀ t, t < 4 → ∀ a, a < 256 → (64 * t + a / 4) &&& 51 = (a / 4) &&& 51 := by decide +kernel
theorem bv1 : ∀ (l : List Nat) (k : Nat), l.length ≤ k → (∀ a ∈ l, a < 256) → bv l - ((bv l / 2) &&& msk 85 k) = bv (l.map p1) := by
  intro l
  induction l with
  | nil => intro k _ _; exact Nat.zero_sub _
  | cons a l ih =>
    intro k hk hl
    obtain ⟨k, rfl⟩ : ∃ y, k = y + 1 := ⟨k - 1, by rw [List.length_cons] at hk; omega⟩
    have ha : a < 256 := hl a List.mem_cons_self
    have e := ih k (by rw [List.length_cons] at hk; omega) (fun x hx => hl x (List.mem_cons_of_mem _ hx))
    show (256 * bv l + a) - (((256 * bv l + a) / 2) &&& (256 * msk 85 k + 85)) = 256 * bv (l.map p1) + p1 a
    rw [show (256 * bv l + a) / 2 = 256 * (bv l / 2) + (128 * (bv l % 2) + a / 2) by omega, n_and (by omega) (by omega), m55 _ (by omega) _ ha, ← e]
    unfold p1
    have b1 := and_le_l (bv l / 2) (msk 85 k)
    have b2 := and_le_l (a / 2) 85
    generalize (bv l / 2) &&& msk 85 k = u at *
    generalize (a / 2) &&& 85 = v at *
    omega
theorem bv2 : ∀ (l : List Nat) (k : Nat), l.length ≤ k → (∀ a ∈ l, a < 256) → (bv l &&& msk 51 k) + ((bv l / 4) &&& msk 51 k) = bv (l.map p2) := by
  intro l
  induction l with
  | nil => intro k _ _; show (0 &&& msk 51 k) + ((0 / 4) &&& msk 51 k) = 0; rw [Nat.zero_div, z_and]
  | cons a l ih =>
    intro k hk hl
    obtain ⟨k, rfl⟩ : ∃ y, k = y + 1 := ⟨k - 1, by rw [List.length_cons] at hk; omega⟩
    have ha : a < 256 := hl a List.mem_cons_self
    have e := ih k (by rw [List.length_cons] at hk; omega) (fun x hx => hl x (List.mem_cons_of_mem _ hx))
    show ((256 * bv l + a) &&& (256 * msk 51 k + 51)) + (((256 * bv l + a) / 4) &&& (256 * msk 51 k + 51)) = 256 * bv (l.map p2) + p2 a
    rw [show (256 * bv l + a) / 4 = 256 * (bv l / 4) + (64 * (bv l % 4) + a / 4) by omega, n_and ha (by omega), n_and (by omega) (by omega), m33 _ (by omega) _ ha, ← e]
    unfold p2
    omega
def nib (a : Nat) : Prop := a < 112 ∧ a % 16 < 7
theorem bv_16 {l : List Nat} (h : ∀ a ∈ l, nib a) : bv l % 16 < 7 := by
  cases l with
  | nil => decide
  | cons a l =>
    have := (h a List.mem_cons_self).2
    show (256 * bv l + a) % 16 < 7
    omega
theorem bv3 : ∀ (l : List Nat) (k : Nat), l.length ≤ k → (∀ a ∈ l, nib a) → (bv l + bv l / 16) &&& msk 15 k = bv (l.map p3) := by
  intro l
  induction l with
  | nil => intro k _ _; show (0 + 0 / 16) &&& msk 15 k = 0; rw [Nat.zero_div, z_and]
  | cons a l ih =>
    intro k hk hl
    obtain ⟨k, rfl⟩ : ∃ y, k = y + 1 := ⟨k - 1, by rw [List.length_cons] at hk; omega⟩
    have ha := hl a List.mem_cons_self
    have hl' : ∀ x ∈ l, nib x := fun x hx => hl x (List.mem_cons_of_mem _ hx)
    have e := ih k (by rw [List.length_cons] at hk; omega) hl'
    have b := bv_16 hl'
    have c1 : a < 112 := ha.1
    show ((256 * bv l + a) + (256 * bv l + a) / 16) &&& (256 * msk 15 k + 15) = 256 * bv (l.map p3) + p3 a
    rw [show (256 * bv l + a) + (256 * bv l + a) / 16 = 256 * (bv l + bv l / 16) + (a + a / 16 + 16 * (bv l % 16)) by omega, n_and (by omega) (by omega), e]
    have q : ∀ x : Nat, x &&& 15 = x % 16 := fun x => Nat.and_two_pow_sub_one_eq_mod x 4
    unfold p3
    rw [q, q]
    omega
theorem pc_all : ∀ a, a < 256 → p1 a < 256 ∧ nib (p2 (p1 a)) ∧ p3 (p2 (p1 a)) = cnt (fun k => a.testBit k) 8 := by
  have : ∀ a, a < 256 → p1 a < 256 ∧ (p2 (p1 a) < 112 ∧ p2 (p1 a) % 16 < 7) ∧ p3 (p2 (p1 a)) = cnt (fun k => a.testBit k) 8 := by decide +kernel
  exact this
theorem cnt_8 {y a : Nat} (ha : a < 256) : ∀ n, cnt (fun k => (256 * y + a).testBit k) (n + 8) = cnt (fun k => y.testBit k) n + cnt (fun k => a.testBit k) 8 := by
  have t : ∀ j, (256 * y + a).testBit j = if j < 8 then a.testBit j else y.testBit (j - 8) := fun j => Nat.testBit_two_pow_mul_add y (show a < 2 ^ 8 from ha) j
  intro n
  induction n with
  | zero =>
    show cnt _ 8 = 0 + _
    rw [Nat.zero_add]
    refine cnt_congr 8 (fun j hj => ?_)
    show (256 * y + a).testBit j = a.testBit j
    rw [t, if_pos hj]
  | succ n ih =>
    show cnt (fun k => (256 * y + a).testBit k) (n + 8) + (if (256 * y + a).testBit (n + 8) then 1 else 0) = cnt (fun k => y.testBit k) n + (if y.testBit n then 1 else 0) + _
    have tn : (256 * y + a).testBit (n + 8) = y.testBit n := by
      rw [t, if_neg (by omega), Nat.add_sub_cancel]
    rw [ih, tn]
    omega
theorem j_and {a b : Nat} (ha : a < 2 ^ 64) (hb : b < 2 ^ 64) : Int64.ofNat a &&& Int64.ofNat b = Int64.ofNat (a &&& b) := by
  have h1 : UInt64.ofNat a &&& UInt64.ofNat b = UInt64.ofNat (a &&& b) := by
    apply UInt64.toNat_inj.mp
    have := and_le_l a b
    rw [UInt64.toNat_and, UInt64.toNat_ofNat', UInt64.toNat_ofNat', UInt64.toNat_ofNat', Nat.mod_eq_of_lt ha, Nat.mod_eq_of_lt hb, Nat.mod_eq_of_lt (show a &&& b < 2 ^ 64 by omega)]
  exact congrArg UInt64.toInt64 h1
theorem j_or {a b : Nat} (ha : a < 2 ^ 64) (hb : b < 2 ^ 64) : Int64.ofNat a ||| Int64.ofNat b = Int64.ofNat (a ||| b) := by
  have h1 : UInt64.ofNat a ||| UInt64.ofNat b = UInt64.ofNat (a ||| b) := by
    apply UInt64.toNat_inj.mp
    rw [UInt64.toNat_or, UInt64.toNat_ofNat', UInt64.toNat_ofNat', UInt64.toNat_ofNat', Nat.mod_eq_of_lt ha, Nat.mod_eq_of_lt hb, Nat.mod_eq_of_lt (Nat.or_lt_two_pow ha hb)]
  exact congrArg UInt64.toInt64 h1
theorem j_shr {v k : Nat} {c : Int32} (hv : v < 2 ^ 64) (hk : k < 64) (hc : (c.toInt64.toUInt64 &&& Int64.toUInt64 63) = UInt64.ofNat k) : ((Int64.ofNat v).toUInt64 >>> (c.toInt64.toUInt64 &&& Int64.toUInt64 63)).toInt64 = Int64.ofNat (v / 2 ^ k) := by
  rw [o64, hc]
  have h1 : UInt64.ofNat v >>> UInt64.ofNat k = UInt64.ofNat (v / 2 ^ k) := by
    apply UInt64.toNat_inj.mp
    have hd : v / 2 ^ k ≤ v := Nat.div_le_self _ _
    rw [UInt64.toNat_shiftRight, UInt64.toNat_ofNat', UInt64.toNat_ofNat', UInt64.toNat_ofNat', Nat.mod_eq_of_lt hv, Nat.mod_eq_of_lt (show k < 2 ^ 64 by omega), Nat.mod_eq_of_lt hk, Nat.mod_eq_of_lt (show v / 2 ^ k < 2 ^ 64 by omega), Nat.shiftRight_eq_div_pow]
  exact congrArg UInt64.toInt64 h1
theorem j_127 {v : Nat} (hv : v < 2 ^ 64) : (Int64.ofNat v).toInt32 &&& 127 = nI (v % 128) := by
  apply Int32.toBitVec_inj.mp
  have e1 : ((Int64.ofNat v).toInt32 &&& 127).toBitVec = ((BitVec.ofNat 64 v).signExtend 32) &&& BitVec.ofNat 32 127 := rfl
  have e2 : (nI (v % 128)).toBitVec = BitVec.ofNat 32 (v % 128) := rfl
  rw [e1, e2]
  apply BitVec.eq_of_toNat_eq
  rw [BitVec.toNat_and, BitVec.signExtend_eq_setWidth_of_le _ (by decide), BitVec.toNat_setWidth, BitVec.toNat_ofNat, BitVec.toNat_ofNat, BitVec.toNat_ofNat, Nat.mod_eq_of_lt hv, Nat.mod_eq_of_lt (show v % 128 < 2 ^ 32 by omega), show 127 % 2 ^ 32 = 2 ^ 7 - 1 from rfl, Nat.and_two_pow_sub_one_eq_mod]
  omega
def bc1 (x : Int64) : Int64 := x - (((x.toUInt64 >>> ((1 : Int32).toInt64.toUInt64 &&& Int64.toUInt64 63)).toInt64) &&& 6148914691236517205)
def bc2 (x : Int64) : Int64 := (x &&& 3689348814741910323) + (((x.toUInt64 >>> ((2 : Int32).toInt64.toUInt64 &&& Int64.toUInt64 63)).toInt64) &&& 3689348814741910323)
def bc3 (x : Int64) : Int64 := (x + ((x.toUInt64 >>> ((4 : Int32).toInt64.toUInt64 &&& Int64.toUInt64 63)).toInt64)) &&& 1085102592571150095
def bc4 (x : Int64) : Int64 := x + ((x.toUInt64 >>> ((8 : Int32).toInt64.toUInt64 &&& Int64.toUInt64 63)).toInt64)
def bc5 (x : Int64) : Int64 := x + ((x.toUInt64 >>> ((16 : Int32).toInt64.toUInt64 &&& Int64.toUInt64 63)).toInt64)
def bc6 (x : Int64) : Int64 := x + ((x.toUInt64 >>> ((32 : Int32).toInt64.toUInt64 &&& Int64.toUInt64 63)).toInt64)
theorem bc_eq (h : IH) (x : Int64) : s_J13_bitCount_95d88 h x = some ((bc6 (bc5 (bc4 (bc3 (bc2 (bc1 x)))))).toInt32 &&& 127) := rfl
theorem bv_lt {l : List Nat} (h : ∀ a ∈ l, a < 256) (h5 : l.length ≤ 5) : bv l < 1099511627776 := by
  have : ∀ (l : List Nat) (k : Nat), l.length ≤ k → (∀ a ∈ l, a < 256) → bv l < 256 ^ k := by
    intro l
    induction l with
    | nil => intro k _ _; exact Nat.pow_pos (by decide)
    | cons a l ih =>
      intro k hk hl
      obtain ⟨k, rfl⟩ : ∃ y, k = y + 1 := ⟨k - 1, by rw [List.length_cons] at hk; omega⟩
      have := ih k (by rw [List.length_cons] at hk; omega) (fun x hx => hl x (List.mem_cons_of_mem _ hx))
      have ha := hl a List.mem_cons_self
      show 256 * bv l + a < 256 ^ (k + 1)
      rw [Nat.pow_succ]
      omega
  exact this l 5 h5 h
theorem bits5 (h : IH) {a0 a1 a2 a3 a4 : Nat} (h0 : a0 < 256) (h1 : a1 < 256) (h2 : a2 < 256) (h3 : a3 < 256) (h4 : a4 < 256) : s_J13_bitCount_95d88 h (Int64.ofNat (bv [a0, a1, a2, a3, a4])) = some (nI (cnt (fun k => (bv [a0, a1, a2, a3, a4]).testBit k) 40)) := by
  have l0 : ∀ a ∈ [a0, a1, a2, a3, a4], a < 256 := by
    intro a ha
    simp only [List.mem_cons, List.not_mem_nil, or_false] at ha
    omega
  have l1 : ∀ a ∈ [a0, a1, a2, a3, a4].map p1, a < 256 := by
    intro a ha
    obtain ⟨b, hb, e⟩ := List.mem_map.mp ha
    rw [← e]
    exact (pc_all b (l0 b hb)).1
  have l2 : ∀ a ∈ ([a0, a1, a2, a3, a4].map p1).map p2, nib a := by
    intro a ha
    rw [List.map_map] at ha
    obtain ⟨b, hb, e⟩ := List.mem_map.mp ha
    rw [← e]
    exact (pc_all b (l0 b hb)).2.1
  have b0 := bv_lt l0 (Nat.le_refl 5)
  have b1 := bv_lt l1 (Nat.le_refl 5)
  have b2 : bv (([a0, a1, a2, a3, a4].map p1).map p2) < 1099511627776 := bv_lt (fun a ha => by have := (l2 a ha).1; omega) (Nat.le_refl 5)
  have s1 := bv1 _ 8 (show [a0, a1, a2, a3, a4].length ≤ 8 from (by decide : 5 ≤ 8)) l0
  have s2 := bv2 _ 8 (show ([a0, a1, a2, a3, a4].map p1).length ≤ 8 from (by decide : 5 ≤ 8)) l1
  have s3 := bv3 _ 8 (show (([a0, a1, a2, a3, a4].map p1).map p2).length ≤ 8 from (by decide : 5 ≤ 8)) l2
  have k1 : msk 85 8 = 6148914691236517205 := by decide
  have k2 : msk 51 8 = 3689348814741910323 := by decide
  have k3 : msk 15 8 = 1085102592571150095 := by decide
  rw [k1] at s1
  rw [k2] at s2
  rw [k3] at s3
  have e1 : bc1 (Int64.ofNat (bv [a0, a1, a2, a3, a4])) = Int64.ofNat (bv ([a0, a1, a2, a3, a4].map p1)) := by
    unfold bc1
    have := and_le_l (bv [a0, a1, a2, a3, a4] / 2) 6148914691236517205
    rw [j_shr (k := 1) (by omega) (by decide) (by decide), Nat.pow_one, show (6148914691236517205 : Int64) = Int64.ofNat 6148914691236517205 from rfl, j_and (by omega) (by decide), ← Int64.ofNat_sub _ _ (by omega), s1]
  have e2 : bc2 (Int64.ofNat (bv ([a0, a1, a2, a3, a4].map p1))) = Int64.ofNat (bv (([a0, a1, a2, a3, a4].map p1).map p2)) := by
    unfold bc2
    rw [j_shr (k := 2) (by omega) (by decide) (by decide), show (3689348814741910323 : Int64) = Int64.ofNat 3689348814741910323 from rfl, j_and (by omega) (by decide), j_and (by omega) (by decide), ← Int64.ofNat_add, show 2 ^ 2 = 4 from rfl, s2]
  have e3 : bc3 (Int64.ofNat (bv (([a0, a1, a2, a3, a4].map p1).map p2))) = Int64.ofNat (bv ((([a0, a1, a2, a3, a4].map p1).map p2).map p3)) := by
    unfold bc3
    rw [j_shr (k := 4) (by omega) (by decide) (by decide), show (1085102592571150095 : Int64) = Int64.ofNat 1085102592571150095 from rfl, ← Int64.ofNat_add, j_and (by omega) (by decide), show 2 ^ 4 = 16 from rfl, s3]
  rw [bc_eq, e1, e2, e3]
  have c0 := (pc_all a0 h0).2.2
  have c1 := (pc_all a1 h1).2.2
  have c2 := (pc_all a2 h2).2.2
  have c3 := (pc_all a3 h3).2.2
  have c4 := (pc_all a4 h4).2.2
  have d0 := cnt_le (fun k => a0.testBit k) 8
  have d1 := cnt_le (fun k => a1.testBit k) 8
  have d2 := cnt_le (fun k => a2.testBit k) 8
  have d3 := cnt_le (fun k => a3.testBit k) 8
  have d4 := cnt_le (fun k => a4.testBit k) 8
  have t0 : cnt (fun k => (bv [a0, a1, a2, a3, a4]).testBit k) 40 = cnt (fun k => (bv [a1, a2, a3, a4]).testBit k) 32 + cnt (fun k => a0.testBit k) 8 := cnt_8 h0 32
  have t1 : cnt (fun k => (bv [a1, a2, a3, a4]).testBit k) 32 = cnt (fun k => (bv [a2, a3, a4]).testBit k) 24 + cnt (fun k => a1.testBit k) 8 := cnt_8 h1 24
  have t2 : cnt (fun k => (bv [a2, a3, a4]).testBit k) 24 = cnt (fun k => (bv [a3, a4]).testBit k) 16 + cnt (fun k => a2.testBit k) 8 := cnt_8 h2 16
  have t3 : cnt (fun k => (bv [a3, a4]).testBit k) 16 = cnt (fun k => (bv [a4]).testBit k) 8 + cnt (fun k => a3.testBit k) 8 := cnt_8 h3 8
  have t4 : cnt (fun k => (bv [a4]).testBit k) 8 = cnt (fun k => (bv []).testBit k) 0 + cnt (fun k => a4.testBit k) 8 := cnt_8 h4 0
  have t5 : cnt (fun k => (bv []).testBit k) 0 = 0 := rfl
  have u : bv ((([a0, a1, a2, a3, a4].map p1).map p2).map p3) = p3 (p2 (p1 a0)) + 256 * p3 (p2 (p1 a1)) + 65536 * p3 (p2 (p1 a2)) + 16777216 * p3 (p2 (p1 a3)) + 4294967296 * p3 (p2 (p1 a4)) := by
    show 256 * (256 * (256 * (256 * (256 * 0 + p3 (p2 (p1 a4))) + p3 (p2 (p1 a3))) + p3 (p2 (p1 a2))) + p3 (p2 (p1 a1))) + p3 (p2 (p1 a0)) = _
    omega
  rw [u, c0, c1, c2, c3, c4]
  have tt : cnt (fun k => (bv [a0, a1, a2, a3, a4]).testBit k) 40 = cnt (fun k => a0.testBit k) 8 + cnt (fun k => a1.testBit k) 8 + cnt (fun k => a2.testBit k) 8 + cnt (fun k => a3.testBit k) 8 + cnt (fun k => a4.testBit k) 8 := by omega
  rw [tt]
  generalize cnt (fun k => a0.testBit k) 8 = w0 at d0 ⊢
  generalize cnt (fun k => a1.testBit k) 8 = w1 at d1 ⊢
  generalize cnt (fun k => a2.testBit k) 8 = w2 at d2 ⊢
  generalize cnt (fun k => a3.testBit k) 8 = w3 at d3 ⊢
  generalize cnt (fun k => a4.testBit k) 8 = w4 at d4 ⊢
  unfold bc6 bc5 bc4
  rw [j_shr (v := w0 + 256 * w1 + 65536 * w2 + 16777216 * w3 + 4294967296 * w4) (k := 8) (by omega) (by decide) (by decide), ← Int64.ofNat_add]
  have v1 : (w0 + 256 * w1 + 65536 * w2 + 16777216 * w3 + 4294967296 * w4) + (w0 + 256 * w1 + 65536 * w2 + 16777216 * w3 + 4294967296 * w4) / 2 ^ 8 = (w0 + w1) + 256 * (w1 + w2) + 65536 * (w2 + w3) + 16777216 * (w3 + w4) + 4294967296 * w4 := by omega
  rw [v1, j_shr (k := 16) (by omega) (by decide) (by decide), ← Int64.ofNat_add]
  have v2 : ((w0 + w1) + 256 * (w1 + w2) + 65536 * (w2 + w3) + 16777216 * (w3 + w4) + 4294967296 * w4) + ((w0 + w1) + 256 * (w1 + w2) + 65536 * (w2 + w3) + 16777216 * (w3 + w4) + 4294967296 * w4) / 2 ^ 16 = (w0 + w1 + w2 + w3) + 256 * (w1 + w2 + w3 + w4) + 65536 * (w2 + w3 + w4) + 16777216 * (w3 + w4) + 4294967296 * w4 := by omega
  have v3 : ((w0 + w1 + w2 + w3) + 256 * (w1 + w2 + w3 + w4) + 65536 * (w2 + w3 + w4) + 16777216 * (w3 + w4) + 4294967296 * w4) + ((w0 + w1 + w2 + w3) + 256 * (w1 + w2 + w3 + w4) + 65536 * (w2 + w3 + w4) + 16777216 * (w3 + w4) + 4294967296 * w4) / 2 ^ 32 = (w0 + w1 + w2 + w3 + w4) + 256 * (w1 + w2 + w3 + w4) + 65536 * (w2 + w3 + w4) + 16777216 * (w3 + w4) + 4294967296 * w4 := by omega
  have v4 : ((w0 + w1 + w2 + w3 + w4) + 256 * (w1 + w2 + w3 + w4) + 65536 * (w2 + w3 + w4) + 16777216 * (w3 + w4) + 4294967296 * w4) % 128 = w0 + w1 + w2 + w3 + w4 := by omega
  rw [v2, j_shr (k := 32) (by omega) (by decide) (by decide), ← Int64.ofNat_add, v3, j_127 (by omega), v4]
theorem bitsX (h : IH) {M : Nat} (hM : M < 1099511627776) : s_J13_bitCount_95d88 h (Int64.ofNat M) = some (nI (cnt (fun k => M.testBit k) 40)) := by
  have e : M = bv [M % 256, M / 256 % 256, M / 65536 % 256, M / 16777216 % 256, M / 4294967296 % 256] := by
    show M = 256 * (256 * (256 * (256 * (256 * 0 + M / 4294967296 % 256) + M / 16777216 % 256) + M / 65536 % 256) + M / 256 % 256) + M % 256
    omega
  rw [e]
  exact bits5 h (by omega) (by omega) (by omega) (by omega) (by omega)
theorem shl_z : ∀ z, z < 40 → (1 : Int64) <<< ((nI z).toInt64 &&& 63) = Int64.ofNat (2 ^ z) := by decide +kernel
theorem or_z {M z : Nat} (hM : M < 1099511627776) (hz : z < 40) : Int64.ofNat M ||| ((1 : Int64) <<< ((nI z).toInt64 &&& 63)) = Int64.ofNat (M ||| 2 ^ z) ∧ M ||| 2 ^ z < 1099511627776 ∧ ∀ k, (M ||| 2 ^ z).testBit k = (M.testBit k || decide (z = k)) := by
  have p : 2 ^ z < 2 ^ 40 := Nat.pow_lt_pow_right (by decide) hz
  refine ⟨?_, Nat.or_lt_two_pow (n := 40) hM p, fun k => ?_⟩
  · rw [shl_z z hz, j_or (by omega) (by omega)]
  · rw [Nat.testBit_or, Nat.testBit_two_pow]
