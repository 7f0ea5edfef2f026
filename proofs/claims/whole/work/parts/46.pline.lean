/-! ===== a line of a log: what it tells, and how the class reads it ===== -/
def numOk (b : Nat → Int32) (s e mx : Nat) : Bool := decide (1 ≤ e - s ∧ e - s ≤ mx ∧ allB dig b (e - s) s = true)
def calOk (b : Nat → Int32) (s e : Nat) : Bool := decide (1 ≤ e - s ∧ e - s ≤ 6 ∧ allB clB b (e - s) s = true)
abbrev CoT : Type := Int64 × Nat × Nat × Int32 × Int32
def pEnd {α : Type} (b : Nat → Int32) (l c : Nat) (x : α) : Nat × Option α := if nxS b l c < nxE b l c then (nxS b l c, none) else (nxS b l c, some x)
def pCon4 (b : Nat → Int32) (l c : Nat) (mo : Int64) (cf cl : Nat) (sn : Int32) : Nat × Option CoT := if nxS b l c < nxE b l c then (if numOk b (nxS b l c) (nxE b l c) 5 = true then pEnd b l (nxE b l c) (mo, cf, cl, sn, (numV b (nxE b l c - nxS b l c) (nxS b l c) 0).toInt32) else (nxS b l c, none)) else (nxS b l c, some (mo, cf, cl, sn, -1))
def pCon3 (b : Nat → Int32) (l c : Nat) (mo : Int64) (cf cl : Nat) : Nat × Option CoT := if nxS b l c < nxE b l c then (if numOk b (nxS b l c) (nxE b l c) 5 = true then pCon4 b l (nxE b l c) mo cf cl (numV b (nxE b l c - nxS b l c) (nxS b l c) 0).toInt32 else (nxS b l c, none)) else (nxS b l c, some (mo, cf, cl, -1, -1))
def pCon2 (b : Nat → Int32) (l c : Nat) (mo : Int64) : Nat × Option CoT := if calOk b (nxS b l c) (nxE b l c) = true then pCon3 b l (nxE b l c) mo (nxS b l c) (nxE b l c - nxS b l c) else (nxS b l c, none)
def pCon (b : Nat → Int32) (l c : Nat) : Nat × Option CoT := if numOk b (nxS b l c) (nxE b l c) 10 = true then pCon2 b l (nxE b l c) (numV b (nxE b l c - nxS b l c) (nxS b l c) 0) else (nxS b l c, none)
def pRes2 (b : Nat → Int32) (l c : Nat) (mo : Int64) : Nat × Option (Int64 × Int64) := if numOk b (nxS b l c) (nxE b l c) 10 = true then pEnd b l (nxE b l c) (mo, numV b (nxE b l c - nxS b l c) (nxS b l c) 0) else (nxS b l c, none)
def pRes (b : Nat → Int32) (l c : Nat) : Nat × Option (Int64 × Int64) := if numOk b (nxS b l c) (nxE b l c) 10 = true then pRes2 b l (nxE b l c) (numV b (nxE b l c - nxS b l c) (nxS b l c) 0) else (nxS b l c, none)
/-! the numbers that words tell -/
theorem ipow {i j : Nat} (h : i ≤ j) : (10 : Int) ^ i ≤ 10 ^ j := by
  have := Nat.pow_le_pow_right (n := 10) (by decide) h
  exact_mod_cast this
theorem numV_bd (b : Nat → Int32) : ∀ r k (v : Int64) (j : Nat), 0 ≤ v.toInt → v.toInt < (10 : Int) ^ j → r + j ≤ 17 → allB dig b r k = true → 0 ≤ (numV b r k v).toInt ∧ (numV b r k v).toInt < (10 : Int) ^ (r + j) := by
  intro r
  induction r with
  | zero =>
    intro k v j h1 h2 _ _
    rw [Nat.zero_add]
    exact ⟨h1, h2⟩
  | succ r ih =>
    intro k v j h1 h2 h3 h4
    unfold allB at h4
    rw [Bool.and_eq_true] at h4
    have hd := of_decide_eq_true h4.1
    have d1 := iLe.mp hd.1
    have d2 := iLe.mp hd.2
    have e48 : (48 : Int32).toInt = 48 := rfl
    have e57 : (57 : Int32).toInt = 57 := rfl
    have e10 : (10 : Int64).toInt = 10 := rfl
    have hp : (10 : Int) ^ j ≤ 10 ^ 16 := ipow (by omega)
    have hp2 : (10 : Int) ^ 16 = 10000000000000000 := by decide
    have e1 : ((b k - 48).toInt64).toInt = (b k).toInt - 48 := by rw [il, is (by omega) (by omega), e48]
    have e2 : (10 * v).toInt = 10 * v.toInt := by rw [lm (by rw [e10]; omega) (by rw [e10]; omega), e10]
    have e3 : (10 * v + (b k - 48).toInt64).toInt = 10 * v.toInt + ((b k).toInt - 48) := by rw [la (by rw [e1, e2]; omega) (by rw [e1, e2]; omega), e1, e2]
    have hj : (10 : Int) ^ (j + 1) = 10 ^ j * 10 := Int.pow_succ 10 j
    unfold numV
    have := ih (k + 1) (10 * v + (b k - 48).toInt64) (j + 1) (by omega) (by omega) (by omega) h4.2
    rw [show r + 1 + j = r + (j + 1) by omega]
    exact this
theorem numV_ok {b : Nat → Int32} {s e mx : Nat} (hm : mx ≤ 10) (h : numOk b s e mx = true) : 0 ≤ (numV b (e - s) s 0).toInt ∧ (numV b (e - s) s 0).toInt < (10 : Int) ^ mx := by
  have h := of_decide_eq_true h
  have := numV_bd b (e - s) s 0 0 (by decide) (by decide) (by omega) h.2.2
  refine ⟨this.1, Int.lt_of_lt_of_le this.2 (ipow (by omega))⟩
theorem numV5 {b : Nat → Int32} {s e : Nat} (h : numOk b s e 5 = true) : 0 ≤ (numV b (e - s) s 0).toInt32.toInt ∧ (numV b (e - s) s 0).toInt32.toInt < 100000 := by
  have := numV_ok (by omega) h
  have e : (10 : Int) ^ 5 = 100000 := by decide
  rw [e] at this
  rw [li (by omega) (by omega)]
  exact this
theorem shl8 {x : Int64} {c : Int32} {v : Nat} (hx : x = Int64.ofNat v) (hv : v < 2 ^ 48) (h1 : 0 ≤ c.toInt) (h2 : c.toInt < 256) : ((x <<< ((8 : Int32).toInt64 &&& 63)) ||| c.toInt64) = Int64.ofNat (v * 256 + c.toInt.toNat) := by
  obtain ⟨d, hd⟩ : ∃ d : Nat, c.toInt = d := ⟨c.toInt.toNat, by omega⟩
  have hc : c.toInt64 = Int64.ofNat d := by
    apply lEq.mpr
    rw [il, hd, Int64.toInt_ofNat_of_lt (by omega)]
  have e8 : ((8 : Int32).toInt64 &&& 63) = 8 := by decide
  rw [hx, hc, e8, hd, Int.toNat_natCast]
  apply Int64.toBitVec_inj.mp
  apply BitVec.eq_of_toNat_eq
  rw [Int64.toBitVec_or, Int64.toBitVec_shiftLeft]
  have e9 : (Int64.toBitVec 8).smod 64 = 8#64 := by decide
  rw [e9]
  have q1 : (Int64.ofNat v).toBitVec.toNat = v := by
    show (BitVec.ofNat 64 v).toNat = v
    rw [BitVec.toNat_ofNat, Nat.mod_eq_of_lt (by omega)]
  have q2 : (Int64.ofNat d).toBitVec.toNat = d := by
    show (BitVec.ofNat 64 d).toNat = d
    rw [BitVec.toNat_ofNat, Nat.mod_eq_of_lt (by omega)]
  have q3 : (Int64.ofNat (v * 256 + d)).toBitVec.toNat = v * 256 + d := by
    show (BitVec.ofNat 64 (v * 256 + d)).toNat = v * 256 + d
    rw [BitVec.toNat_ofNat, Nat.mod_eq_of_lt (by omega)]
  rw [BitVec.toNat_or, q2, q3]
  have q4 : ((Int64.ofNat v).toBitVec <<< (8#64)).toNat = v <<< 8 := by
    show ((Int64.ofNat v).toBitVec <<< (8#64).toNat).toNat = v <<< 8
    rw [BitVec.toNat_shiftLeft, q1]
    show v <<< 8 % 2 ^ 64 = v <<< 8
    rw [Nat.shiftLeft_eq, Nat.mod_eq_of_lt (by omega)]
  rw [q4, ← Nat.shiftLeft_add_eq_or_of_lt (by omega : d < 2 ^ 8), Nat.shiftLeft_eq]
/-- the number that the characters are, to the base 256 -/
def cvN (b : Nat → Int32) : Nat → Nat → Nat → Nat
  | 0, _, v => v
  | r + 1, k, v => cvN b r (k + 1) (v * 256 + (b k).toInt.toNat)
theorem clB_bd {c : Int32} (h : clB c = true) : 48 ≤ c.toInt ∧ c.toInt ≤ 90 := by
  unfold clB at h
  rw [Bool.or_eq_true] at h
  have e48 : (48 : Int32).toInt = 48 := rfl
  have e57 : (57 : Int32).toInt = 57 := rfl
  have e65 : (65 : Int32).toInt = 65 := rfl
  have e90 : (90 : Int32).toInt = 90 := rfl
  rcases h with h | h
  · have h := of_decide_eq_true h
    have d1 := iLe.mp h.1
    have d2 := iLe.mp h.2
    omega
  · have h := of_decide_eq_true h
    have d1 := iLe.mp h.1
    have d2 := iLe.mp h.2
    omega
theorem calV_eq (b : Nat → Int32) : ∀ r k (x : Int64) (v j : Nat), x = Int64.ofNat v → v < 256 ^ j → r + j ≤ 6 → allB clB b r k = true → calV b r k x = Int64.ofNat (cvN b r k v) ∧ cvN b r k v < 256 ^ (r + j) := by
  intro r
  induction r with
  | zero =>
    intro k x v j h1 h2 _ _
    rw [Nat.zero_add]
    exact ⟨h1, h2⟩
  | succ r ih =>
    intro k x v j h1 h2 h3 h4
    unfold allB at h4
    rw [Bool.and_eq_true] at h4
    have hd := clB_bd h4.1
    have hp : 256 ^ j ≤ 256 ^ 5 := Nat.pow_le_pow_right (by decide) (by omega)
    have hp2 : 256 ^ 5 = 1099511627776 := by decide
    unfold calV cvN
    rw [shl8 h1 (by omega) (by omega) (by omega)]
    have hj : 256 ^ (j + 1) = 256 ^ j * 256 := Nat.pow_succ _ _
    have := ih (k + 1) _ (v * 256 + (b k).toInt.toNat) (j + 1) rfl (by omega) (by omega) h4.2
    rw [show r + 1 + j = r + (j + 1) by omega]
    exact this
theorem cvN_ge (b : Nat → Int32) : ∀ r k v, v ≤ cvN b r k v := by
  intro r
  induction r with
  | zero => intro k v; exact Nat.le_refl _
  | succ r ih =>
    intro k v
    unfold cvN
    have := ih (k + 1) (v * 256 + (b k).toInt.toNat)
    omega
theorem calOk_ne {b : Nat → Int32} {s e : Nat} (h : calOk b s e = true) : calV b (e - s) s 0 ≠ 0 := by
  have h := of_decide_eq_true h
  obtain ⟨h1, h2, h3⟩ := h
  have e1 := calV_eq b (e - s) s 0 0 0 rfl (by decide) (by omega) h3
  have e2 : 256 ^ (e - s + 0) ≤ 256 ^ 6 := Nat.pow_le_pow_right (by decide) (by omega)
  have e3 : 256 ^ 6 = 281474976710656 := by decide
  rw [e1.1]
  obtain ⟨r, hr⟩ : ∃ r, e - s = r + 1 := ⟨e - s - 1, by omega⟩
  have e4 : 0 < cvN b (e - s) s 0 := by
    rw [hr] at h3 ⊢
    unfold allB at h3
    rw [Bool.and_eq_true] at h3
    have := clB_bd h3.1
    unfold cvN
    have := cvN_ge b r (s + 1) (0 * 256 + (b s).toInt.toNat)
    omega
  intro q
  have q := congrArg Int64.toInt q
  rw [Int64.toInt_ofNat_of_lt (by omega)] at q
  have : (0 : Int64).toInt = 0 := rfl
  omega
/-! the class -/
def fL1 (A : Nat → Nat) (f a : Nat) : Prop := (1002 ≤ f ∧ f ≤ 1005) ∨ (200 ≤ f ∧ f ≤ 205 ∧ a = A 6)
def gL1 (A : Nat → Nat) (f a : Nat) : Prop := 201 ≤ f ∧ f ≤ 203 ∧ a = A 6
abbrev FrL (A : Nat → Nat) : IH → IH → Prop := Fr (fL1 A) (gL1 A) no1 no1
def WX (h : IH) (A : Nat → Nat) (T l c : Nat) (b : Nat → Int32) : Prop := fI h 1001 (A 1) = nI T ∧ T ≤ 1000 ∧ fI h 1003 (A 1) = nI l ∧ l ≤ T ∧ fI h 1002 (A 1) = nI c ∧ c ≤ l ∧ rI h (A 2) = b
def WdX (h : IH) (A : Nat → Nat) (s e : Nat) : Prop := fI h 1004 (A 1) = nI s ∧ fI h 1005 (A 1) = nI (e - s)
theorem WX.wI {h : IH} {A : Nat → Nat} {T l c : Nat} {b : Nat → Int32} (w : WX h A T l c b) (f a : Nat) (v : Int32) (hf : f < 1000) : WX (wfI h f a v) A T l c b := by
  obtain ⟨w1, w2, w3, w4, w5, w6, w7⟩ := w
  exact ⟨by rw [fI_wfI_ne _ _ (by omega), w1], w2, by rw [fI_wfI_ne _ _ (by omega), w3], w4, by rw [fI_wfI_ne _ _ (by omega), w5], w6, w7⟩
theorem WX.wL {h : IH} {A : Nat → Nat} {T l c : Nat} {b : Nat → Int32} (w : WX h A T l c b) (f a : Nat) (v : Int64) : WX (wfL h f a v) A T l c b := w
theorem WdX.wI {h : IH} {A : Nat → Nat} {s e : Nat} (w : WdX h A s e) (f a : Nat) (v : Int32) (hf : f < 1000) : WdX (wfI h f a v) A s e := ⟨by rw [fI_wfI_ne _ _ (by omega), w.1], by rw [fI_wfI_ne _ _ (by omega), w.2]⟩
theorem nextX {h : IH} {A : Nat → Nat} {n : Nat} (S : ShX h A n) {T l c N : Nat} {b : Nat → Int32} (hN : 2000 ≤ N) (w : WX h A T l c b) : ∃ h', s_X10_nextWord N h (A 1) = some (if nxS b l c < nxE b l c then 1 else 0, h') ∧ FrL A h h' ∧ WX h' A T l (nxE b l c) b ∧ WdX h' A (nxS b l c) (nxE b l c) ∧ (∀ f a, f < 1000 → fI h' f a = fI h f a) ∧ fL h' = fL h := by
  obtain ⟨w1, w2, w3, w4, w5, w6, w7⟩ := w
  have hb := nx_bd b w6
  have e := nextWord_spec S hN w1 w2 w3 w4 w5 w6
  rw [w7] at e
  refine ⟨_, e, ?_, ?_, ?_, ?_, rfl⟩
  · unfold nxX
    exact ((Fr.wI _ _ _ _ (Or.inl (by omega))).trans (Fr.wI _ _ _ _ (Or.inl (by omega)))).trans (Fr.wI _ _ _ _ (Or.inl (by omega)))
  · unfold nxX
    rw [w7]
    exact ⟨by rw [fI_wfI_ne _ _ (by decide), fI_wfI_ne _ _ (by decide), fI_wfI_ne _ _ (by decide), w1], w2, by rw [fI_wfI_ne _ _ (by decide), fI_wfI_ne _ _ (by decide), fI_wfI_ne _ _ (by decide), w3], w4, by rw [fI_wfI], hb.2.2, w7⟩
  · unfold nxX
    rw [w7]
    exact ⟨by rw [fI_wfI_ne _ _ (by decide), fI_wfI_ne _ _ (by decide), fI_wfI], by rw [fI_wfI_ne _ _ (by decide), fI_wfI]⟩
  · intro f a hf
    unfold nxX
    rw [fI_wfI_ne _ _ (by omega), fI_wfI_ne _ _ (by omega), fI_wfI_ne _ _ (by omega)]
theorem numX {h : IH} {A : Nat → Nat} {n : Nat} (S : ShX h A n) {T l c s e N : Nat} {b : Nat → Int32} (hN : 2000 ≤ N) (w : WX h A T l c b) (d : WdX h A s e) (hs : s ≤ e) (he : e ≤ T) (mx : Nat) (hm : mx < 100) : s_X10_wordAsNumber N h (A 1) (nI mx) = some (if numOk b s e mx = true then numV b (e - s) s 0 else -1) := by
  obtain ⟨w1, w2, w3, w4, w5, w6, w7⟩ := w
  rw [wordAsNumber_spec S hN w1 w2 d.1 d.2 (by omega) mx hm, w7]
  unfold numOk
  congr 1
  by_cases q : 1 ≤ e - s ∧ e - s ≤ mx ∧ allB dig b (e - s) s = true
  · rw [if_pos q, if_pos (decide_eq_true q)]
  · rw [if_neg q, if_neg (fun z => q (of_decide_eq_true z))]
theorem calX {h : IH} {A : Nat → Nat} {n : Nat} (S : ShX h A n) {T l c s e N : Nat} {b : Nat → Int32} (hN : 2000 ≤ N) (w : WX h A T l c b) (d : WdX h A s e) (hs : s ≤ e) (he : e ≤ T) : s_X10_wordAsCall N h (A 1) = some (if calOk b s e = true then calV b (e - s) s 0 else 0) := by
  obtain ⟨w1, w2, w3, w4, w5, w6, w7⟩ := w
  rw [wordAsCall_spec S hN w1 w2 d.1 d.2 (by omega), w7]
  unfold calOk
  congr 1
  by_cases q : 1 ≤ e - s ∧ e - s ≤ 6 ∧ allB clB b (e - s) s = true
  · rw [if_pos q, if_pos (decide_eq_true q)]
  · rw [if_neg q, if_neg (fun z => q (of_decide_eq_true z))]
theorem ne_m1 {x : Int64} (h : 0 ≤ x.toInt) : ¬ lg_cmp x (-1) = 0 := by
  rw [lc_eq, lEq]
  have : (-1 : Int64).toInt = -1 := rfl
  omega
theorem ne_m1i {x : Int32} (h : 0 ≤ x.toInt) : ¬ x = -1 := by
  rw [iEq]
  have : (-1 : Int32).toInt = -1 := rfl
  omega
theorem momX {h : IH} {A : Nat → Nat} {n : Nat} (S : ShX h A n) {T l c N : Nat} {b : Nat → Int32} (hN : 2000 ≤ N) (w : WX h A T l c b) : ∃ h', s_X5_readMoment N h (A 5) = some (if numOk b (nxS b l c) (nxE b l c) 10 = true then 1 else 0, h') ∧ FrL A h h' ∧ WX h' A T l (nxE b l c) b ∧ fI h' 1004 (A 1) = nI (nxS b l c) ∧ (numOk b (nxS b l c) (nxE b l c) 10 = true → fL h' 201 (A 6) = numV b (nxE b l c - nxS b l c) (nxS b l c) 0) ∧ (∀ f a, f < 1000 → fI h' f a = fI h f a) ∧ (∀ f a, f ≠ 201 → fL h' f a = fL h f a) := by
  have hb := nx_bd b w.2.2.2.2.2.1
  have hl := w.2.2.2.1
  obtain ⟨h1, e1, f1, w1, d1, k1, g1⟩ := nextX S hN w
  have S1 := f1.shX S
  have n1 := numX S1 hN w1 d1 hb.2.1 (by omega) 10 (by omega)
  unfold s_X5_readMoment
  rw [show (10 : Int32) = nI 10 from rfl]
  simp only [gX5_0 S, vX10 S, e1, Option.bind_some, gX5_1 S1, gX5_0 S1, vX10 S1, n1, pX2l_1 S1]
  have S2 : ∀ v, ShX (wfL h1 201 (A 6) v) A n := fun v => S1
  simp only [gX5_1 (S2 _), gX2l_1 (S2 _), Option.bind_some, fL_wfL]
  have fr : ∀ v, FrL A h (wfL h1 201 (A 6) v) := fun v => f1.trans (Fr.wL _ _ _ _ ⟨by omega, by omega, rfl⟩)
  by_cases q : numOk b (nxS b l c) (nxE b l c) 10 = true
  · rw [if_pos q, if_pos q, if_neg (ne_m1 (numV_ok (by omega) q).1)]
    exact ⟨_, rfl, fr _, w1, d1.1, fun _ => fL_wfL _ _ _ _, k1, fun f a hf => by rw [fL_wfL_ne _ _ hf, g1]⟩
  · rw [if_neg q, if_neg q, if_pos (by decide)]
    exact ⟨_, rfl, fr _, w1, d1.1, fun z => absurd z q, k1, fun f a hf => by rw [fL_wfL_ne _ _ hf, g1]⟩
