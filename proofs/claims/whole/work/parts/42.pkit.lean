/-! ===== the class: its shape in the ideal heap; A names an address by its place: 0 the house, 1 Tape, 2 its bytes, 3 Roster, 4 stations, 5 LogReader, 6 its line, 7 wrongLines, 8 Formula, 9 codes, 10 draft, 11 lacking, 12 stack, 13 Checker, 14 Clocks, 15 gaps, 16 gapContacts, 17 Pairing, 18 worth, 19 best, 20 order, 21 otherOrder, 22 settled, 23 otherSettled, 24 Scores, 25 editions, 26 editionSizes, 30.. rows of worth, 50.. of best, 70.. of editions, 100 + s Station, 120 + s its logs, 200 + q Log (q = 3 s + band; 36 the draft), 300 + q its rows, 1000 + 16 q + i Entry ===== -/
def kTab : List Nat := [12, 11, 20, 8, 25, 6, 3, 20, 4, 20, 20, 20, 21, 1, 2, 21, 20, 7, 26, 26, 20, 20, 22, 22, 9, 26, 20, 0, 0, 0, 20, 20, 20, 20, 20, 20, 20, 20, 20, 20, 20, 20, 20, 20, 20, 20, 0, 0, 0, 0, 20, 20, 20, 20, 20, 20, 20, 20, 20, 20, 20, 20, 20, 20, 20, 20, 20, 0, 0, 0, 20, 20, 20, 20, 20, 20, 20, 20, 20, 20, 20, 20, 20, 20, 20, 20, 20, 20, 20, 20]
def lTab : List Nat := [0, 0, 1000, 0, 12, 0, 0, 1000, 0, 30, 30, 9, 30, 0, 0, 768, 768, 0, 16, 17, 16, 16, 16, 16, 0, 20, 20, 0, 0, 0, 16, 16, 16, 16, 16, 16, 16, 16, 16, 16, 16, 16, 16, 16, 16, 16, 0, 0, 0, 0, 17, 17, 17, 17, 17, 17, 17, 17, 17, 17, 17, 17, 17, 17, 17, 17, 17, 0, 0, 0, 12, 12, 12, 12, 12, 12, 12, 12, 12, 12, 12, 12, 12, 12, 12, 12, 12, 12, 12, 12]
def KX (i : Nat) : Nat := if i < 90 then kTab.getD i 0 else if i < 120 then 10 else if i < 200 then 24 else if i < 300 then 5 else if i < 1000 then 23 else 3
def LX (i : Nat) : Nat := if i < 90 then lTab.getD i 0 else if i < 200 then 3 else 16
def lvQ (n q : Nat) : Prop := q < 3 * n ∨ q = 36
def lvX (n i : Nat) : Prop := (i < 90 ∧ KX i ≠ 0) ∨ (100 ≤ i ∧ i < 100 + n) ∨ (120 ≤ i ∧ i < 120 + n) ∨ (200 ≤ i ∧ i < 237 ∧ lvQ n (i - 200)) ∨ (300 ≤ i ∧ i < 337 ∧ lvQ n (i - 300)) ∨ (1000 ≤ i ∧ i < 1592 ∧ lvQ n ((i - 1000) / 16))
def refT : List (Nat × Nat × Nat) := [(1100, 0, 1), (1101, 0, 3), (1102, 0, 5), (1103, 0, 8), (1104, 0, 13), (1105, 0, 24), (1106, 0, 25), (1107, 0, 26), (1000, 1, 2), (700, 3, 4), (500, 5, 1), (501, 5, 6), (502, 5, 7), (504, 5, 236), (300, 8, 9), (302, 8, 10), (303, 8, 11), (305, 8, 12), (0, 13, 3), (1, 13, 14), (2, 13, 17), (100, 14, 3), (101, 14, 15), (102, 14, 16), (600, 17, 18), (601, 17, 19), (602, 17, 20), (603, 17, 21), (606, 17, 22), (607, 17, 23), (800, 24, 3), (801, 24, 8)]
def ShX (h : IH) (A : Nat → Nat) (n : Nat) : Prop := n ≤ 12 ∧ (∀ i, lvX n i → kd h (A i) = KX i ∧ (20 ≤ KX i → ln h (A i) = LX i)) ∧ (∀ i j, lvX n i → lvX n j → A i = A j → i = j) ∧ (∀ t ∈ refT, fR h t.1 (A t.2.1) = some (A t.2.2)) ∧ (∀ i, i < 16 → rR h (A 18) i = some (A (30 + i))) ∧ (∀ i, i < 17 → rR h (A 19) i = some (A (50 + i))) ∧ (∀ i, i < 20 → rR h (A 25) i = some (A (70 + i))) ∧ (∀ s, s < n → rR h (A 4) s = some (A (100 + s)) ∧ fR h 905 (A (100 + s)) = some (A (120 + s)) ∧ ∀ b, b < 3 → rR h (A (120 + s)) b = some (A (200 + (3 * s + b)))) ∧ (∀ q, lvQ n q → fR h 400 (A (200 + q)) = some (A (300 + q)) ∧ ∀ i, i < 16 → rR h (A (300 + q)) i = some (A (1000 + (16 * q + i))))
theorem ShX_wfI (h : IH) (A : Nat → Nat) (n f a : Nat) (v : Int32) : ShX (wfI h f a v) A n = ShX h A n := rfl
theorem ShX_wfL (h : IH) (A : Nat → Nat) (n f a : Nat) (v : Int64) : ShX (wfL h f a v) A n = ShX h A n := rfl
theorem ShX_setI (h : IH) (A : Nat → Nat) (n a : Nat) (g : Nat → Int32) : ShX (setI h a g) A n = ShX h A n := rfl
theorem ShX_setJ (h : IH) (A : Nat → Nat) (n a : Nat) (g : Nat → Int64) : ShX (setJ h a g) A n = ShX h A n := rfl
theorem lv_lit {n i : Nat} (h1 : i < 90) (h2 : KX i ≠ 0) : lvX n i := Or.inl ⟨h1, h2⟩
theorem lv_s {n s : Nat} (h1 : s < n) : lvX n (100 + s) := Or.inr (Or.inl ⟨by omega, by omega⟩)
theorem lv_la {n s : Nat} (h1 : s < n) : lvX n (120 + s) := Or.inr (Or.inr (Or.inl ⟨by omega, by omega⟩))
theorem lv_q {n q : Nat} (hn : n ≤ 12) (h1 : lvQ n q) : lvX n (200 + q) := Or.inr (Or.inr (Or.inr (Or.inl ⟨by omega, by rcases h1 with h | h <;> omega, by rw [Nat.add_sub_cancel_left]; exact h1⟩)))
theorem lv_rw {n q : Nat} (hn : n ≤ 12) (h1 : lvQ n q) : lvX n (300 + q) := Or.inr (Or.inr (Or.inr (Or.inr (Or.inl ⟨by omega, by rcases h1 with h | h <;> omega, by rw [Nat.add_sub_cancel_left]; exact h1⟩))))
theorem lv_e {n q i : Nat} (hn : n ≤ 12) (h1 : lvQ n q) (hi : i < 16) : lvX n (1000 + (16 * q + i)) := Or.inr (Or.inr (Or.inr (Or.inr (Or.inr ⟨by omega, by rcases h1 with h | h <;> omega, by
  have e : (1000 + (16 * q + i) - 1000) / 16 = q := by omega
  rw [e]
  exact h1⟩))))
theorem KX_s {s : Nat} (h : s < 12) : KX (100 + s) = 10 := by
  unfold KX
  rw [if_neg (by omega), if_pos (by omega)]
theorem KX_la {s : Nat} (h : s < 12) : KX (120 + s) = 24 := by
  unfold KX
  rw [if_neg (by omega), if_neg (by omega), if_pos (by omega)]
theorem KX_q {q : Nat} (h : q < 37) : KX (200 + q) = 5 := by
  unfold KX
  rw [if_neg (by omega), if_neg (by omega), if_neg (by omega), if_pos (by omega)]
theorem KX_rw {q : Nat} (h : q < 37) : KX (300 + q) = 23 := by
  unfold KX
  rw [if_neg (by omega), if_neg (by omega), if_neg (by omega), if_neg (by omega), if_pos (by omega)]
theorem KX_e (e : Nat) : KX (1000 + e) = 3 := by
  unfold KX
  rw [if_neg (by omega), if_neg (by omega), if_neg (by omega), if_neg (by omega), if_neg (by omega)]
theorem lvQ_lt {n q : Nat} (hn : n ≤ 12) (h : lvQ n q) : q < 37 := by rcases h with h | h <;> omega
theorem kA {h : IH} {A : Nat → Nat} {n : Nat} (S : ShX h A n) {i : Nat} (hi : lvX n i) : kd h (A i) = KX i := (S.2.1 i hi).1
theorem lA {h : IH} {A : Nat → Nat} {n : Nat} (S : ShX h A n) {i : Nat} (hi : lvX n i) (hk : 20 ≤ KX i) : ln h (A i) = LX i := (S.2.1 i hi).2 hk
theorem iA {h : IH} {A : Nat → Nat} {n : Nat} (S : ShX h A n) {i j : Nat} (hi : lvX n i) (hj : lvX n j) (e : A i = A j) : i = j := S.2.2.1 i j hi hj e
theorem nA {h : IH} {A : Nat → Nat} {n : Nat} (S : ShX h A n) {i j : Nat} (hi : lvX n i) (hj : lvX n j) (e : i ≠ j) : A i ≠ A j := fun q => e (iA S hi hj q)
theorem rA {h : IH} {A : Nat → Nat} {n : Nat} (S : ShX h A n) (f i j : Nat) (ht : (f, i, j) ∈ refT) : fR h f (A i) = some (A j) := S.2.2.2.1 (f, i, j) ht
theorem k13 {h : IH} {A : Nat → Nat} {n : Nat} (S : ShX h A n) : kd h (A 13) = 1 := kA S (lv_lit (by decide) (by decide))
theorem vX0 {h : IH} {A : Nat → Nat} {n : Nat} (S : ShX h A n) {α : Type} (f : Nat → Option α) : cV h 0 (some (A 13)) f = f (A 13) := cV_ok (c := 0) f (k13 S)
theorem gX0_3 {h : IH} {A : Nat → Nat} {n : Nat} (S : ShX h A n) : gI h 0 3 (some (A 13)) = some (fI h 3 (A 13)) := gI_ok (c := 0) 3 (k13 S)
theorem pX0_3 {h : IH} {A : Nat → Nat} {n : Nat} (S : ShX h A n) (v : Int32) : pI h 0 3 (some (A 13)) v = some (wfI h 3 (A 13) v) := pI_ok (c := 0) 3 v (k13 S)
theorem gX0_4 {h : IH} {A : Nat → Nat} {n : Nat} (S : ShX h A n) : gI h 0 4 (some (A 13)) = some (fI h 4 (A 13)) := gI_ok (c := 0) 4 (k13 S)
theorem pX0_4 {h : IH} {A : Nat → Nat} {n : Nat} (S : ShX h A n) (v : Int32) : pI h 0 4 (some (A 13)) v = some (wfI h 4 (A 13) v) := pI_ok (c := 0) 4 v (k13 S)
theorem k14 {h : IH} {A : Nat → Nat} {n : Nat} (S : ShX h A n) : kd h (A 14) = 2 := kA S (lv_lit (by decide) (by decide))
theorem vX1 {h : IH} {A : Nat → Nat} {n : Nat} (S : ShX h A n) {α : Type} (f : Nat → Option α) : cV h 1 (some (A 14)) f = f (A 14) := cV_ok (c := 1) f (k14 S)
theorem gX1_3 {h : IH} {A : Nat → Nat} {n : Nat} (S : ShX h A n) : gI h 1 3 (some (A 14)) = some (fI h 103 (A 14)) := gI_ok (c := 1) 3 (k14 S)
theorem pX1_3 {h : IH} {A : Nat → Nat} {n : Nat} (S : ShX h A n) (v : Int32) : pI h 1 3 (some (A 14)) v = some (wfI h 103 (A 14) v) := pI_ok (c := 1) 3 v (k14 S)
theorem gX1_4 {h : IH} {A : Nat → Nat} {n : Nat} (S : ShX h A n) : gI h 1 4 (some (A 14)) = some (fI h 104 (A 14)) := gI_ok (c := 1) 4 (k14 S)
theorem pX1_4 {h : IH} {A : Nat → Nat} {n : Nat} (S : ShX h A n) (v : Int32) : pI h 1 4 (some (A 14)) v = some (wfI h 104 (A 14) v) := pI_ok (c := 1) 4 v (k14 S)
theorem k8 {h : IH} {A : Nat → Nat} {n : Nat} (S : ShX h A n) : kd h (A 8) = 4 := kA S (lv_lit (by decide) (by decide))
theorem vX3 {h : IH} {A : Nat → Nat} {n : Nat} (S : ShX h A n) {α : Type} (f : Nat → Option α) : cV h 3 (some (A 8)) f = f (A 8) := cV_ok (c := 3) f (k8 S)
theorem gX3_1 {h : IH} {A : Nat → Nat} {n : Nat} (S : ShX h A n) : gI h 3 1 (some (A 8)) = some (fI h 301 (A 8)) := gI_ok (c := 3) 1 (k8 S)
theorem pX3_1 {h : IH} {A : Nat → Nat} {n : Nat} (S : ShX h A n) (v : Int32) : pI h 3 1 (some (A 8)) v = some (wfI h 301 (A 8) v) := pI_ok (c := 3) 1 v (k8 S)
theorem gX3_4 {h : IH} {A : Nat → Nat} {n : Nat} (S : ShX h A n) : gI h 3 4 (some (A 8)) = some (fI h 304 (A 8)) := gI_ok (c := 3) 4 (k8 S)
theorem pX3_4 {h : IH} {A : Nat → Nat} {n : Nat} (S : ShX h A n) (v : Int32) : pI h 3 4 (some (A 8)) v = some (wfI h 304 (A 8) v) := pI_ok (c := 3) 4 v (k8 S)
theorem gX3_6 {h : IH} {A : Nat → Nat} {n : Nat} (S : ShX h A n) : gI h 3 6 (some (A 8)) = some (fI h 306 (A 8)) := gI_ok (c := 3) 6 (k8 S)
theorem pX3_6 {h : IH} {A : Nat → Nat} {n : Nat} (S : ShX h A n) (v : Int32) : pI h 3 6 (some (A 8)) v = some (wfI h 306 (A 8) v) := pI_ok (c := 3) 6 v (k8 S)
theorem k5 {h : IH} {A : Nat → Nat} {n : Nat} (S : ShX h A n) : kd h (A 5) = 6 := kA S (lv_lit (by decide) (by decide))
theorem vX5 {h : IH} {A : Nat → Nat} {n : Nat} (S : ShX h A n) {α : Type} (f : Nat → Option α) : cV h 5 (some (A 5)) f = f (A 5) := cV_ok (c := 5) f (k5 S)
theorem gX5_3 {h : IH} {A : Nat → Nat} {n : Nat} (S : ShX h A n) : gI h 5 3 (some (A 5)) = some (fI h 503 (A 5)) := gI_ok (c := 5) 3 (k5 S)
theorem pX5_3 {h : IH} {A : Nat → Nat} {n : Nat} (S : ShX h A n) (v : Int32) : pI h 5 3 (some (A 5)) v = some (wfI h 503 (A 5) v) := pI_ok (c := 5) 3 v (k5 S)
theorem k17 {h : IH} {A : Nat → Nat} {n : Nat} (S : ShX h A n) : kd h (A 17) = 7 := kA S (lv_lit (by decide) (by decide))
theorem vX6 {h : IH} {A : Nat → Nat} {n : Nat} (S : ShX h A n) {α : Type} (f : Nat → Option α) : cV h 6 (some (A 17)) f = f (A 17) := cV_ok (c := 6) f (k17 S)
theorem gX6_4 {h : IH} {A : Nat → Nat} {n : Nat} (S : ShX h A n) : gI h 6 4 (some (A 17)) = some (fI h 604 (A 17)) := gI_ok (c := 6) 4 (k17 S)
theorem pX6_4 {h : IH} {A : Nat → Nat} {n : Nat} (S : ShX h A n) (v : Int32) : pI h 6 4 (some (A 17)) v = some (wfI h 604 (A 17) v) := pI_ok (c := 6) 4 v (k17 S)
theorem gX6_5 {h : IH} {A : Nat → Nat} {n : Nat} (S : ShX h A n) : gI h 6 5 (some (A 17)) = some (fI h 605 (A 17)) := gI_ok (c := 6) 5 (k17 S)
theorem pX6_5 {h : IH} {A : Nat → Nat} {n : Nat} (S : ShX h A n) (v : Int32) : pI h 6 5 (some (A 17)) v = some (wfI h 605 (A 17) v) := pI_ok (c := 6) 5 v (k17 S)
theorem k3 {h : IH} {A : Nat → Nat} {n : Nat} (S : ShX h A n) : kd h (A 3) = 8 := kA S (lv_lit (by decide) (by decide))
theorem vX7 {h : IH} {A : Nat → Nat} {n : Nat} (S : ShX h A n) {α : Type} (f : Nat → Option α) : cV h 7 (some (A 3)) f = f (A 3) := cV_ok (c := 7) f (k3 S)
theorem gX7_1 {h : IH} {A : Nat → Nat} {n : Nat} (S : ShX h A n) : gI h 7 1 (some (A 3)) = some (fI h 701 (A 3)) := gI_ok (c := 7) 1 (k3 S)
theorem pX7_1 {h : IH} {A : Nat → Nat} {n : Nat} (S : ShX h A n) (v : Int32) : pI h 7 1 (some (A 3)) v = some (wfI h 701 (A 3) v) := pI_ok (c := 7) 1 v (k3 S)
theorem k24 {h : IH} {A : Nat → Nat} {n : Nat} (S : ShX h A n) : kd h (A 24) = 9 := kA S (lv_lit (by decide) (by decide))
theorem vX8 {h : IH} {A : Nat → Nat} {n : Nat} (S : ShX h A n) {α : Type} (f : Nat → Option α) : cV h 8 (some (A 24)) f = f (A 24) := cV_ok (c := 8) f (k24 S)
theorem gX8_2 {h : IH} {A : Nat → Nat} {n : Nat} (S : ShX h A n) : gI h 8 2 (some (A 24)) = some (fI h 802 (A 24)) := gI_ok (c := 8) 2 (k24 S)
theorem pX8_2 {h : IH} {A : Nat → Nat} {n : Nat} (S : ShX h A n) (v : Int32) : pI h 8 2 (some (A 24)) v = some (wfI h 802 (A 24) v) := pI_ok (c := 8) 2 v (k24 S)
theorem k1 {h : IH} {A : Nat → Nat} {n : Nat} (S : ShX h A n) : kd h (A 1) = 11 := kA S (lv_lit (by decide) (by decide))
theorem vX10 {h : IH} {A : Nat → Nat} {n : Nat} (S : ShX h A n) {α : Type} (f : Nat → Option α) : cV h 10 (some (A 1)) f = f (A 1) := cV_ok (c := 10) f (k1 S)
theorem gX10_1 {h : IH} {A : Nat → Nat} {n : Nat} (S : ShX h A n) : gI h 10 1 (some (A 1)) = some (fI h 1001 (A 1)) := gI_ok (c := 10) 1 (k1 S)
theorem pX10_1 {h : IH} {A : Nat → Nat} {n : Nat} (S : ShX h A n) (v : Int32) : pI h 10 1 (some (A 1)) v = some (wfI h 1001 (A 1) v) := pI_ok (c := 10) 1 v (k1 S)
theorem gX10_2 {h : IH} {A : Nat → Nat} {n : Nat} (S : ShX h A n) : gI h 10 2 (some (A 1)) = some (fI h 1002 (A 1)) := gI_ok (c := 10) 2 (k1 S)
theorem pX10_2 {h : IH} {A : Nat → Nat} {n : Nat} (S : ShX h A n) (v : Int32) : pI h 10 2 (some (A 1)) v = some (wfI h 1002 (A 1) v) := pI_ok (c := 10) 2 v (k1 S)
theorem gX10_3 {h : IH} {A : Nat → Nat} {n : Nat} (S : ShX h A n) : gI h 10 3 (some (A 1)) = some (fI h 1003 (A 1)) := gI_ok (c := 10) 3 (k1 S)
theorem pX10_3 {h : IH} {A : Nat → Nat} {n : Nat} (S : ShX h A n) (v : Int32) : pI h 10 3 (some (A 1)) v = some (wfI h 1003 (A 1) v) := pI_ok (c := 10) 3 v (k1 S)
theorem gX10_4 {h : IH} {A : Nat → Nat} {n : Nat} (S : ShX h A n) : gI h 10 4 (some (A 1)) = some (fI h 1004 (A 1)) := gI_ok (c := 10) 4 (k1 S)
theorem pX10_4 {h : IH} {A : Nat → Nat} {n : Nat} (S : ShX h A n) (v : Int32) : pI h 10 4 (some (A 1)) v = some (wfI h 1004 (A 1) v) := pI_ok (c := 10) 4 v (k1 S)
theorem gX10_5 {h : IH} {A : Nat → Nat} {n : Nat} (S : ShX h A n) : gI h 10 5 (some (A 1)) = some (fI h 1005 (A 1)) := gI_ok (c := 10) 5 (k1 S)
theorem pX10_5 {h : IH} {A : Nat → Nat} {n : Nat} (S : ShX h A n) (v : Int32) : pI h 10 5 (some (A 1)) v = some (wfI h 1005 (A 1) v) := pI_ok (c := 10) 5 v (k1 S)
theorem k0 {h : IH} {A : Nat → Nat} {n : Nat} (S : ShX h A n) : kd h (A 0) = 12 := kA S (lv_lit (by decide) (by decide))
theorem vX11 {h : IH} {A : Nat → Nat} {n : Nat} (S : ShX h A n) {α : Type} (f : Nat → Option α) : cV h 11 (some (A 0)) f = f (A 0) := cV_ok (c := 11) f (k0 S)
theorem gX11_8 {h : IH} {A : Nat → Nat} {n : Nat} (S : ShX h A n) : gI h 11 8 (some (A 0)) = some (fI h 1108 (A 0)) := gI_ok (c := 11) 8 (k0 S)
theorem pX11_8 {h : IH} {A : Nat → Nat} {n : Nat} (S : ShX h A n) (v : Int32) : pI h 11 8 (some (A 0)) v = some (wfI h 1108 (A 0) v) := pI_ok (c := 11) 8 v (k0 S)
theorem gX11_9 {h : IH} {A : Nat → Nat} {n : Nat} (S : ShX h A n) : gI h 11 9 (some (A 0)) = some (fI h 1109 (A 0)) := gI_ok (c := 11) 9 (k0 S)
theorem pX11_9 {h : IH} {A : Nat → Nat} {n : Nat} (S : ShX h A n) (v : Int32) : pI h 11 9 (some (A 0)) v = some (wfI h 1109 (A 0) v) := pI_ok (c := 11) 9 v (k0 S)
theorem gX11_10 {h : IH} {A : Nat → Nat} {n : Nat} (S : ShX h A n) : gI h 11 10 (some (A 0)) = some (fI h 1110 (A 0)) := gI_ok (c := 11) 10 (k0 S)
theorem pX11_10 {h : IH} {A : Nat → Nat} {n : Nat} (S : ShX h A n) (v : Int32) : pI h 11 10 (some (A 0)) v = some (wfI h 1110 (A 0) v) := pI_ok (c := 11) 10 v (k0 S)
theorem gX11_11 {h : IH} {A : Nat → Nat} {n : Nat} (S : ShX h A n) : gI h 11 11 (some (A 0)) = some (fI h 1111 (A 0)) := gI_ok (c := 11) 11 (k0 S)
theorem pX11_11 {h : IH} {A : Nat → Nat} {n : Nat} (S : ShX h A n) (v : Int32) : pI h 11 11 (some (A 0)) v = some (wfI h 1111 (A 0) v) := pI_ok (c := 11) 11 v (k0 S)
theorem gX11_12 {h : IH} {A : Nat → Nat} {n : Nat} (S : ShX h A n) : gI h 11 12 (some (A 0)) = some (fI h 1112 (A 0)) := gI_ok (c := 11) 12 (k0 S)
theorem pX11_12 {h : IH} {A : Nat → Nat} {n : Nat} (S : ShX h A n) (v : Int32) : pI h 11 12 (some (A 0)) v = some (wfI h 1112 (A 0) v) := pI_ok (c := 11) 12 v (k0 S)
theorem gX11_13 {h : IH} {A : Nat → Nat} {n : Nat} (S : ShX h A n) : gI h 11 13 (some (A 0)) = some (fI h 1113 (A 0)) := gI_ok (c := 11) 13 (k0 S)
theorem pX11_13 {h : IH} {A : Nat → Nat} {n : Nat} (S : ShX h A n) (v : Int32) : pI h 11 13 (some (A 0)) v = some (wfI h 1113 (A 0) v) := pI_ok (c := 11) 13 v (k0 S)
theorem gX11_0 {h : IH} {A : Nat → Nat} {n : Nat} (S : ShX h A n) : gR h 11 0 (some (A 0)) = some (some (A 1)) := by rw [gR_ok (c := 11) 0 (k0 S)]; exact congrArg some (rA S 1100 0 1 (by decide))
theorem gX11_1 {h : IH} {A : Nat → Nat} {n : Nat} (S : ShX h A n) : gR h 11 1 (some (A 0)) = some (some (A 3)) := by rw [gR_ok (c := 11) 1 (k0 S)]; exact congrArg some (rA S 1101 0 3 (by decide))
theorem gX11_2 {h : IH} {A : Nat → Nat} {n : Nat} (S : ShX h A n) : gR h 11 2 (some (A 0)) = some (some (A 5)) := by rw [gR_ok (c := 11) 2 (k0 S)]; exact congrArg some (rA S 1102 0 5 (by decide))
theorem gX11_3 {h : IH} {A : Nat → Nat} {n : Nat} (S : ShX h A n) : gR h 11 3 (some (A 0)) = some (some (A 8)) := by rw [gR_ok (c := 11) 3 (k0 S)]; exact congrArg some (rA S 1103 0 8 (by decide))
theorem gX11_4 {h : IH} {A : Nat → Nat} {n : Nat} (S : ShX h A n) : gR h 11 4 (some (A 0)) = some (some (A 13)) := by rw [gR_ok (c := 11) 4 (k0 S)]; exact congrArg some (rA S 1104 0 13 (by decide))
theorem gX11_5 {h : IH} {A : Nat → Nat} {n : Nat} (S : ShX h A n) : gR h 11 5 (some (A 0)) = some (some (A 24)) := by rw [gR_ok (c := 11) 5 (k0 S)]; exact congrArg some (rA S 1105 0 24 (by decide))
theorem gX11_6 {h : IH} {A : Nat → Nat} {n : Nat} (S : ShX h A n) : gR h 11 6 (some (A 0)) = some (some (A 25)) := by rw [gR_ok (c := 11) 6 (k0 S)]; exact congrArg some (rA S 1106 0 25 (by decide))
theorem gX11_7 {h : IH} {A : Nat → Nat} {n : Nat} (S : ShX h A n) : gR h 11 7 (some (A 0)) = some (some (A 26)) := by rw [gR_ok (c := 11) 7 (k0 S)]; exact congrArg some (rA S 1107 0 26 (by decide))
theorem gX10_0 {h : IH} {A : Nat → Nat} {n : Nat} (S : ShX h A n) : gR h 10 0 (some (A 1)) = some (some (A 2)) := by rw [gR_ok (c := 10) 0 (k1 S)]; exact congrArg some (rA S 1000 1 2 (by decide))
theorem gX7_0 {h : IH} {A : Nat → Nat} {n : Nat} (S : ShX h A n) : gR h 7 0 (some (A 3)) = some (some (A 4)) := by rw [gR_ok (c := 7) 0 (k3 S)]; exact congrArg some (rA S 700 3 4 (by decide))
theorem gX5_0 {h : IH} {A : Nat → Nat} {n : Nat} (S : ShX h A n) : gR h 5 0 (some (A 5)) = some (some (A 1)) := by rw [gR_ok (c := 5) 0 (k5 S)]; exact congrArg some (rA S 500 5 1 (by decide))
theorem gX5_1 {h : IH} {A : Nat → Nat} {n : Nat} (S : ShX h A n) : gR h 5 1 (some (A 5)) = some (some (A 6)) := by rw [gR_ok (c := 5) 1 (k5 S)]; exact congrArg some (rA S 501 5 6 (by decide))
theorem gX5_2 {h : IH} {A : Nat → Nat} {n : Nat} (S : ShX h A n) : gR h 5 2 (some (A 5)) = some (some (A 7)) := by rw [gR_ok (c := 5) 2 (k5 S)]; exact congrArg some (rA S 502 5 7 (by decide))
theorem gX5_4 {h : IH} {A : Nat → Nat} {n : Nat} (S : ShX h A n) : gR h 5 4 (some (A 5)) = some (some (A 236)) := by rw [gR_ok (c := 5) 4 (k5 S)]; exact congrArg some (rA S 504 5 236 (by decide))
theorem gX3_0 {h : IH} {A : Nat → Nat} {n : Nat} (S : ShX h A n) : gR h 3 0 (some (A 8)) = some (some (A 9)) := by rw [gR_ok (c := 3) 0 (k8 S)]; exact congrArg some (rA S 300 8 9 (by decide))
theorem gX3_2 {h : IH} {A : Nat → Nat} {n : Nat} (S : ShX h A n) : gR h 3 2 (some (A 8)) = some (some (A 10)) := by rw [gR_ok (c := 3) 2 (k8 S)]; exact congrArg some (rA S 302 8 10 (by decide))
theorem gX3_3 {h : IH} {A : Nat → Nat} {n : Nat} (S : ShX h A n) : gR h 3 3 (some (A 8)) = some (some (A 11)) := by rw [gR_ok (c := 3) 3 (k8 S)]; exact congrArg some (rA S 303 8 11 (by decide))
theorem gX3_5 {h : IH} {A : Nat → Nat} {n : Nat} (S : ShX h A n) : gR h 3 5 (some (A 8)) = some (some (A 12)) := by rw [gR_ok (c := 3) 5 (k8 S)]; exact congrArg some (rA S 305 8 12 (by decide))
theorem gX0_0 {h : IH} {A : Nat → Nat} {n : Nat} (S : ShX h A n) : gR h 0 0 (some (A 13)) = some (some (A 3)) := by rw [gR_ok (c := 0) 0 (k13 S)]; exact congrArg some (rA S 0 13 3 (by decide))
theorem gX0_1 {h : IH} {A : Nat → Nat} {n : Nat} (S : ShX h A n) : gR h 0 1 (some (A 13)) = some (some (A 14)) := by rw [gR_ok (c := 0) 1 (k13 S)]; exact congrArg some (rA S 1 13 14 (by decide))
theorem gX0_2 {h : IH} {A : Nat → Nat} {n : Nat} (S : ShX h A n) : gR h 0 2 (some (A 13)) = some (some (A 17)) := by rw [gR_ok (c := 0) 2 (k13 S)]; exact congrArg some (rA S 2 13 17 (by decide))
theorem gX1_0 {h : IH} {A : Nat → Nat} {n : Nat} (S : ShX h A n) : gR h 1 0 (some (A 14)) = some (some (A 3)) := by rw [gR_ok (c := 1) 0 (k14 S)]; exact congrArg some (rA S 100 14 3 (by decide))
theorem gX1_1 {h : IH} {A : Nat → Nat} {n : Nat} (S : ShX h A n) : gR h 1 1 (some (A 14)) = some (some (A 15)) := by rw [gR_ok (c := 1) 1 (k14 S)]; exact congrArg some (rA S 101 14 15 (by decide))
theorem gX1_2 {h : IH} {A : Nat → Nat} {n : Nat} (S : ShX h A n) : gR h 1 2 (some (A 14)) = some (some (A 16)) := by rw [gR_ok (c := 1) 2 (k14 S)]; exact congrArg some (rA S 102 14 16 (by decide))
theorem gX6_0 {h : IH} {A : Nat → Nat} {n : Nat} (S : ShX h A n) : gR h 6 0 (some (A 17)) = some (some (A 18)) := by rw [gR_ok (c := 6) 0 (k17 S)]; exact congrArg some (rA S 600 17 18 (by decide))
theorem gX6_1 {h : IH} {A : Nat → Nat} {n : Nat} (S : ShX h A n) : gR h 6 1 (some (A 17)) = some (some (A 19)) := by rw [gR_ok (c := 6) 1 (k17 S)]; exact congrArg some (rA S 601 17 19 (by decide))
theorem gX6_2 {h : IH} {A : Nat → Nat} {n : Nat} (S : ShX h A n) : gR h 6 2 (some (A 17)) = some (some (A 20)) := by rw [gR_ok (c := 6) 2 (k17 S)]; exact congrArg some (rA S 602 17 20 (by decide))
theorem gX6_3 {h : IH} {A : Nat → Nat} {n : Nat} (S : ShX h A n) : gR h 6 3 (some (A 17)) = some (some (A 21)) := by rw [gR_ok (c := 6) 3 (k17 S)]; exact congrArg some (rA S 603 17 21 (by decide))
theorem gX6_6 {h : IH} {A : Nat → Nat} {n : Nat} (S : ShX h A n) : gR h 6 6 (some (A 17)) = some (some (A 22)) := by rw [gR_ok (c := 6) 6 (k17 S)]; exact congrArg some (rA S 606 17 22 (by decide))
theorem gX6_7 {h : IH} {A : Nat → Nat} {n : Nat} (S : ShX h A n) : gR h 6 7 (some (A 17)) = some (some (A 23)) := by rw [gR_ok (c := 6) 7 (k17 S)]; exact congrArg some (rA S 607 17 23 (by decide))
theorem gX8_0 {h : IH} {A : Nat → Nat} {n : Nat} (S : ShX h A n) : gR h 8 0 (some (A 24)) = some (some (A 3)) := by rw [gR_ok (c := 8) 0 (k24 S)]; exact congrArg some (rA S 800 24 3 (by decide))
theorem gX8_1 {h : IH} {A : Nat → Nat} {n : Nat} (S : ShX h A n) : gR h 8 1 (some (A 24)) = some (some (A 8)) := by rw [gR_ok (c := 8) 1 (k24 S)]; exact congrArg some (rA S 801 24 8 (by decide))
theorem pX0_4z {h : IH} {A : Nat → Nat} {n : Nat} (S : ShX h A n) {v : Int32} (hv : v = 0 ∨ v = 1) : pZ h 0 4 (some (A 13)) v = some (wfI h 4 (A 13) v) := pZ_ok (c := 0) 4 (k13 S) hv
theorem k6 {h : IH} {A : Nat → Nat} {n : Nat} (S : ShX h A n) : kd h (A 6) = 3 := kA S (lv_lit (by decide) (by decide))
theorem gX2l_0 {h : IH} {A : Nat → Nat} {n : Nat} (S : ShX h A n) : gI h 2 0 (some (A 6)) = some (fI h 200 (A 6)) := gI_ok (c := 2) 0 (k6 S)
theorem pX2l_0 {h : IH} {A : Nat → Nat} {n : Nat} (S : ShX h A n) (v : Int32) : pI h 2 0 (some (A 6)) v = some (wfI h 200 (A 6) v) := pI_ok (c := 2) 0 v (k6 S)
theorem gX2l_4 {h : IH} {A : Nat → Nat} {n : Nat} (S : ShX h A n) : gI h 2 4 (some (A 6)) = some (fI h 204 (A 6)) := gI_ok (c := 2) 4 (k6 S)
theorem pX2l_4 {h : IH} {A : Nat → Nat} {n : Nat} (S : ShX h A n) (v : Int32) : pI h 2 4 (some (A 6)) v = some (wfI h 204 (A 6) v) := pI_ok (c := 2) 4 v (k6 S)
theorem gX2l_5 {h : IH} {A : Nat → Nat} {n : Nat} (S : ShX h A n) : gI h 2 5 (some (A 6)) = some (fI h 205 (A 6)) := gI_ok (c := 2) 5 (k6 S)
theorem pX2l_5 {h : IH} {A : Nat → Nat} {n : Nat} (S : ShX h A n) (v : Int32) : pI h 2 5 (some (A 6)) v = some (wfI h 205 (A 6) v) := pI_ok (c := 2) 5 v (k6 S)
theorem gX2l_6 {h : IH} {A : Nat → Nat} {n : Nat} (S : ShX h A n) : gI h 2 6 (some (A 6)) = some (fI h 206 (A 6)) := gI_ok (c := 2) 6 (k6 S)
theorem pX2l_6 {h : IH} {A : Nat → Nat} {n : Nat} (S : ShX h A n) (v : Int32) : pI h 2 6 (some (A 6)) v = some (wfI h 206 (A 6) v) := pI_ok (c := 2) 6 v (k6 S)
theorem gX2l_7 {h : IH} {A : Nat → Nat} {n : Nat} (S : ShX h A n) : gI h 2 7 (some (A 6)) = some (fI h 207 (A 6)) := gI_ok (c := 2) 7 (k6 S)
theorem pX2l_7 {h : IH} {A : Nat → Nat} {n : Nat} (S : ShX h A n) (v : Int32) : pI h 2 7 (some (A 6)) v = some (wfI h 207 (A 6) v) := pI_ok (c := 2) 7 v (k6 S)
theorem gX2l_8 {h : IH} {A : Nat → Nat} {n : Nat} (S : ShX h A n) : gI h 2 8 (some (A 6)) = some (fI h 208 (A 6)) := gI_ok (c := 2) 8 (k6 S)
theorem pX2l_8 {h : IH} {A : Nat → Nat} {n : Nat} (S : ShX h A n) (v : Int32) : pI h 2 8 (some (A 6)) v = some (wfI h 208 (A 6) v) := pI_ok (c := 2) 8 v (k6 S)
theorem gX2l_9 {h : IH} {A : Nat → Nat} {n : Nat} (S : ShX h A n) : gI h 2 9 (some (A 6)) = some (fI h 209 (A 6)) := gI_ok (c := 2) 9 (k6 S)
theorem pX2l_9 {h : IH} {A : Nat → Nat} {n : Nat} (S : ShX h A n) (v : Int32) : pI h 2 9 (some (A 6)) v = some (wfI h 209 (A 6) v) := pI_ok (c := 2) 9 v (k6 S)
theorem gX2l_10 {h : IH} {A : Nat → Nat} {n : Nat} (S : ShX h A n) : gI h 2 10 (some (A 6)) = some (fI h 210 (A 6)) := gI_ok (c := 2) 10 (k6 S)
theorem pX2l_10 {h : IH} {A : Nat → Nat} {n : Nat} (S : ShX h A n) (v : Int32) : pI h 2 10 (some (A 6)) v = some (wfI h 210 (A 6) v) := pI_ok (c := 2) 10 v (k6 S)
theorem gX2l_1 {h : IH} {A : Nat → Nat} {n : Nat} (S : ShX h A n) : gL h 2 1 (some (A 6)) = some (fL h 201 (A 6)) := gL_ok (c := 2) 1 (k6 S)
theorem pX2l_1 {h : IH} {A : Nat → Nat} {n : Nat} (S : ShX h A n) (v : Int64) : pL h 2 1 (some (A 6)) v = some (wfL h 201 (A 6) v) := pL_ok (c := 2) 1 v (k6 S)
theorem gX2l_2 {h : IH} {A : Nat → Nat} {n : Nat} (S : ShX h A n) : gL h 2 2 (some (A 6)) = some (fL h 202 (A 6)) := gL_ok (c := 2) 2 (k6 S)
theorem pX2l_2 {h : IH} {A : Nat → Nat} {n : Nat} (S : ShX h A n) (v : Int64) : pL h 2 2 (some (A 6)) v = some (wfL h 202 (A 6) v) := pL_ok (c := 2) 2 v (k6 S)
theorem gX2l_3 {h : IH} {A : Nat → Nat} {n : Nat} (S : ShX h A n) : gL h 2 3 (some (A 6)) = some (fL h 203 (A 6)) := gL_ok (c := 2) 3 (k6 S)
theorem pX2l_3 {h : IH} {A : Nat → Nat} {n : Nat} (S : ShX h A n) (v : Int64) : pL h 2 3 (some (A 6)) v = some (wfL h 203 (A 6) v) := pL_ok (c := 2) 3 v (k6 S)
theorem kS {h : IH} {A : Nat → Nat} {n : Nat} (S : ShX h A n) {s : Nat} (hs : s < n) : kd h (A (100 + s)) = 10 := by rw [kA S (lv_s hs), KX_s (by have := S.1; omega)]
theorem kQ {h : IH} {A : Nat → Nat} {n : Nat} (S : ShX h A n) {q : Nat} (hq : lvQ n q) : kd h (A (200 + q)) = 5 := by rw [kA S (lv_q S.1 hq), KX_q (lvQ_lt S.1 hq)]
theorem kE {h : IH} {A : Nat → Nat} {n : Nat} (S : ShX h A n) {q i : Nat} (hq : lvQ n q) (hi : i < 16) : kd h (A (1000 + (16 * q + i))) = 3 := by rw [kA S (lv_e S.1 hq hi), KX_e]
theorem vX9 {h : IH} {A : Nat → Nat} {n : Nat} (S : ShX h A n) {α : Type} {s : Nat} (hs : s < n) (f : Nat → Option α) : cV h 9 (some (A (100 + s))) f = f (A (100 + s)) := cV_ok (c := 9) f (kS S hs)
theorem vX4 {h : IH} {A : Nat → Nat} {n : Nat} (S : ShX h A n) {α : Type} {q : Nat} (hq : lvQ n q) (f : Nat → Option α) : cV h 4 (some (A (200 + q))) f = f (A (200 + q)) := cV_ok (c := 4) f (kQ S hq)
theorem vX2 {h : IH} {A : Nat → Nat} {n : Nat} (S : ShX h A n) {α : Type} {q i : Nat} (hq : lvQ n q) (hi : i < 16) (f : Nat → Option α) : cV h 2 (some (A (1000 + (16 * q + i)))) f = f (A (1000 + (16 * q + i))) := cV_ok (c := 2) f (kE S hq hi)
theorem gX9_0 {h : IH} {A : Nat → Nat} {n : Nat} (S : ShX h A n) {s : Nat} (hs : s < n) : gI h 9 0 (some (A (100 + s))) = some (fI h 900 (A (100 + s))) := gI_ok (c := 9) 0 (kS S hs)
theorem pX9_0 {h : IH} {A : Nat → Nat} {n : Nat} (S : ShX h A n) {s : Nat} (hs : s < n) (v : Int32) : pI h 9 0 (some (A (100 + s))) v = some (wfI h 900 (A (100 + s)) v) := pI_ok (c := 9) 0 v (kS S hs)
theorem gX9_1 {h : IH} {A : Nat → Nat} {n : Nat} (S : ShX h A n) {s : Nat} (hs : s < n) : gI h 9 1 (some (A (100 + s))) = some (fI h 901 (A (100 + s))) := gI_ok (c := 9) 1 (kS S hs)
theorem pX9_1 {h : IH} {A : Nat → Nat} {n : Nat} (S : ShX h A n) {s : Nat} (hs : s < n) (v : Int32) : pI h 9 1 (some (A (100 + s))) v = some (wfI h 901 (A (100 + s)) v) := pI_ok (c := 9) 1 v (kS S hs)
theorem gX9_2 {h : IH} {A : Nat → Nat} {n : Nat} (S : ShX h A n) {s : Nat} (hs : s < n) : gI h 9 2 (some (A (100 + s))) = some (fI h 902 (A (100 + s))) := gI_ok (c := 9) 2 (kS S hs)
theorem pX9_2 {h : IH} {A : Nat → Nat} {n : Nat} (S : ShX h A n) {s : Nat} (hs : s < n) (v : Int32) : pI h 9 2 (some (A (100 + s))) v = some (wfI h 902 (A (100 + s)) v) := pI_ok (c := 9) 2 v (kS S hs)
theorem gX9_3 {h : IH} {A : Nat → Nat} {n : Nat} (S : ShX h A n) {s : Nat} (hs : s < n) : gI h 9 3 (some (A (100 + s))) = some (fI h 903 (A (100 + s))) := gI_ok (c := 9) 3 (kS S hs)
theorem pX9_3 {h : IH} {A : Nat → Nat} {n : Nat} (S : ShX h A n) {s : Nat} (hs : s < n) (v : Int32) : pI h 9 3 (some (A (100 + s))) v = some (wfI h 903 (A (100 + s)) v) := pI_ok (c := 9) 3 v (kS S hs)
theorem gX9_6 {h : IH} {A : Nat → Nat} {n : Nat} (S : ShX h A n) {s : Nat} (hs : s < n) : gI h 9 6 (some (A (100 + s))) = some (fI h 906 (A (100 + s))) := gI_ok (c := 9) 6 (kS S hs)
theorem pX9_6 {h : IH} {A : Nat → Nat} {n : Nat} (S : ShX h A n) {s : Nat} (hs : s < n) (v : Int32) : pI h 9 6 (some (A (100 + s))) v = some (wfI h 906 (A (100 + s)) v) := pI_ok (c := 9) 6 v (kS S hs)
theorem gX9_7 {h : IH} {A : Nat → Nat} {n : Nat} (S : ShX h A n) {s : Nat} (hs : s < n) : gI h 9 7 (some (A (100 + s))) = some (fI h 907 (A (100 + s))) := gI_ok (c := 9) 7 (kS S hs)
theorem pX9_7 {h : IH} {A : Nat → Nat} {n : Nat} (S : ShX h A n) {s : Nat} (hs : s < n) (v : Int32) : pI h 9 7 (some (A (100 + s))) v = some (wfI h 907 (A (100 + s)) v) := pI_ok (c := 9) 7 v (kS S hs)
theorem gX9_4 {h : IH} {A : Nat → Nat} {n : Nat} (S : ShX h A n) {s : Nat} (hs : s < n) : gL h 9 4 (some (A (100 + s))) = some (fL h 904 (A (100 + s))) := gL_ok (c := 9) 4 (kS S hs)
theorem pX9_4 {h : IH} {A : Nat → Nat} {n : Nat} (S : ShX h A n) {s : Nat} (hs : s < n) (v : Int64) : pL h 9 4 (some (A (100 + s))) v = some (wfL h 904 (A (100 + s)) v) := pL_ok (c := 9) 4 v (kS S hs)
theorem gX9_8 {h : IH} {A : Nat → Nat} {n : Nat} (S : ShX h A n) {s : Nat} (hs : s < n) : gL h 9 8 (some (A (100 + s))) = some (fL h 908 (A (100 + s))) := gL_ok (c := 9) 8 (kS S hs)
theorem pX9_8 {h : IH} {A : Nat → Nat} {n : Nat} (S : ShX h A n) {s : Nat} (hs : s < n) (v : Int64) : pL h 9 8 (some (A (100 + s))) v = some (wfL h 908 (A (100 + s)) v) := pL_ok (c := 9) 8 v (kS S hs)
theorem gX9_5 {h : IH} {A : Nat → Nat} {n : Nat} (S : ShX h A n) {s : Nat} (hs : s < n) : gR h 9 5 (some (A (100 + s))) = some (some (A (120 + s))) := by rw [gR_ok (c := 9) 5 (kS S hs)]; exact congrArg some (S.2.2.2.2.2.2.2.1 s hs).2.1
theorem gX4_1 {h : IH} {A : Nat → Nat} {n : Nat} (S : ShX h A n) {q : Nat} (hq : lvQ n q) : gI h 4 1 (some (A (200 + q))) = some (fI h 401 (A (200 + q))) := gI_ok (c := 4) 1 (kQ S hq)
theorem pX4_1 {h : IH} {A : Nat → Nat} {n : Nat} (S : ShX h A n) {q : Nat} (hq : lvQ n q) (v : Int32) : pI h 4 1 (some (A (200 + q))) v = some (wfI h 401 (A (200 + q)) v) := pI_ok (c := 4) 1 v (kQ S hq)
theorem gX4_2 {h : IH} {A : Nat → Nat} {n : Nat} (S : ShX h A n) {q : Nat} (hq : lvQ n q) : gI h 4 2 (some (A (200 + q))) = some (fI h 402 (A (200 + q))) := gI_ok (c := 4) 2 (kQ S hq)
theorem pX4_2 {h : IH} {A : Nat → Nat} {n : Nat} (S : ShX h A n) {q : Nat} (hq : lvQ n q) (v : Int32) : pI h 4 2 (some (A (200 + q))) v = some (wfI h 402 (A (200 + q)) v) := pI_ok (c := 4) 2 v (kQ S hq)
theorem pX4_2z {h : IH} {A : Nat → Nat} {n : Nat} (S : ShX h A n) {q : Nat} {v : Int32} (hq : lvQ n q) (hv : v = 0 ∨ v = 1) : pZ h 4 2 (some (A (200 + q))) v = some (wfI h 402 (A (200 + q)) v) := pZ_ok (c := 4) 2 (kQ S hq) hv
theorem gX4_0 {h : IH} {A : Nat → Nat} {n : Nat} (S : ShX h A n) {q : Nat} (hq : lvQ n q) : gR h 4 0 (some (A (200 + q))) = some (some (A (300 + q))) := by rw [gR_ok (c := 4) 0 (kQ S hq)]; exact congrArg some (S.2.2.2.2.2.2.2.2 q hq).1
theorem gX2_0 {h : IH} {A : Nat → Nat} {n : Nat} (S : ShX h A n) {q i : Nat} (hq : lvQ n q) (hi : i < 16) : gI h 2 0 (some (A (1000 + (16 * q + i)))) = some (fI h 200 (A (1000 + (16 * q + i)))) := gI_ok (c := 2) 0 (kE S hq hi)
theorem pX2_0 {h : IH} {A : Nat → Nat} {n : Nat} (S : ShX h A n) {q i : Nat} (hq : lvQ n q) (hi : i < 16) (v : Int32) : pI h 2 0 (some (A (1000 + (16 * q + i)))) v = some (wfI h 200 (A (1000 + (16 * q + i))) v) := pI_ok (c := 2) 0 v (kE S hq hi)
theorem gX2_4 {h : IH} {A : Nat → Nat} {n : Nat} (S : ShX h A n) {q i : Nat} (hq : lvQ n q) (hi : i < 16) : gI h 2 4 (some (A (1000 + (16 * q + i)))) = some (fI h 204 (A (1000 + (16 * q + i)))) := gI_ok (c := 2) 4 (kE S hq hi)
theorem pX2_4 {h : IH} {A : Nat → Nat} {n : Nat} (S : ShX h A n) {q i : Nat} (hq : lvQ n q) (hi : i < 16) (v : Int32) : pI h 2 4 (some (A (1000 + (16 * q + i)))) v = some (wfI h 204 (A (1000 + (16 * q + i))) v) := pI_ok (c := 2) 4 v (kE S hq hi)
theorem gX2_5 {h : IH} {A : Nat → Nat} {n : Nat} (S : ShX h A n) {q i : Nat} (hq : lvQ n q) (hi : i < 16) : gI h 2 5 (some (A (1000 + (16 * q + i)))) = some (fI h 205 (A (1000 + (16 * q + i)))) := gI_ok (c := 2) 5 (kE S hq hi)
theorem pX2_5 {h : IH} {A : Nat → Nat} {n : Nat} (S : ShX h A n) {q i : Nat} (hq : lvQ n q) (hi : i < 16) (v : Int32) : pI h 2 5 (some (A (1000 + (16 * q + i)))) v = some (wfI h 205 (A (1000 + (16 * q + i))) v) := pI_ok (c := 2) 5 v (kE S hq hi)
theorem gX2_6 {h : IH} {A : Nat → Nat} {n : Nat} (S : ShX h A n) {q i : Nat} (hq : lvQ n q) (hi : i < 16) : gI h 2 6 (some (A (1000 + (16 * q + i)))) = some (fI h 206 (A (1000 + (16 * q + i)))) := gI_ok (c := 2) 6 (kE S hq hi)
theorem pX2_6 {h : IH} {A : Nat → Nat} {n : Nat} (S : ShX h A n) {q i : Nat} (hq : lvQ n q) (hi : i < 16) (v : Int32) : pI h 2 6 (some (A (1000 + (16 * q + i)))) v = some (wfI h 206 (A (1000 + (16 * q + i))) v) := pI_ok (c := 2) 6 v (kE S hq hi)
theorem gX2_7 {h : IH} {A : Nat → Nat} {n : Nat} (S : ShX h A n) {q i : Nat} (hq : lvQ n q) (hi : i < 16) : gI h 2 7 (some (A (1000 + (16 * q + i)))) = some (fI h 207 (A (1000 + (16 * q + i)))) := gI_ok (c := 2) 7 (kE S hq hi)
theorem pX2_7 {h : IH} {A : Nat → Nat} {n : Nat} (S : ShX h A n) {q i : Nat} (hq : lvQ n q) (hi : i < 16) (v : Int32) : pI h 2 7 (some (A (1000 + (16 * q + i)))) v = some (wfI h 207 (A (1000 + (16 * q + i))) v) := pI_ok (c := 2) 7 v (kE S hq hi)
theorem gX2_8 {h : IH} {A : Nat → Nat} {n : Nat} (S : ShX h A n) {q i : Nat} (hq : lvQ n q) (hi : i < 16) : gI h 2 8 (some (A (1000 + (16 * q + i)))) = some (fI h 208 (A (1000 + (16 * q + i)))) := gI_ok (c := 2) 8 (kE S hq hi)
theorem pX2_8 {h : IH} {A : Nat → Nat} {n : Nat} (S : ShX h A n) {q i : Nat} (hq : lvQ n q) (hi : i < 16) (v : Int32) : pI h 2 8 (some (A (1000 + (16 * q + i)))) v = some (wfI h 208 (A (1000 + (16 * q + i))) v) := pI_ok (c := 2) 8 v (kE S hq hi)
theorem gX2_9 {h : IH} {A : Nat → Nat} {n : Nat} (S : ShX h A n) {q i : Nat} (hq : lvQ n q) (hi : i < 16) : gI h 2 9 (some (A (1000 + (16 * q + i)))) = some (fI h 209 (A (1000 + (16 * q + i)))) := gI_ok (c := 2) 9 (kE S hq hi)
theorem pX2_9 {h : IH} {A : Nat → Nat} {n : Nat} (S : ShX h A n) {q i : Nat} (hq : lvQ n q) (hi : i < 16) (v : Int32) : pI h 2 9 (some (A (1000 + (16 * q + i)))) v = some (wfI h 209 (A (1000 + (16 * q + i))) v) := pI_ok (c := 2) 9 v (kE S hq hi)
theorem gX2_10 {h : IH} {A : Nat → Nat} {n : Nat} (S : ShX h A n) {q i : Nat} (hq : lvQ n q) (hi : i < 16) : gI h 2 10 (some (A (1000 + (16 * q + i)))) = some (fI h 210 (A (1000 + (16 * q + i)))) := gI_ok (c := 2) 10 (kE S hq hi)
theorem pX2_10 {h : IH} {A : Nat → Nat} {n : Nat} (S : ShX h A n) {q i : Nat} (hq : lvQ n q) (hi : i < 16) (v : Int32) : pI h 2 10 (some (A (1000 + (16 * q + i)))) v = some (wfI h 210 (A (1000 + (16 * q + i))) v) := pI_ok (c := 2) 10 v (kE S hq hi)
theorem gX2_1 {h : IH} {A : Nat → Nat} {n : Nat} (S : ShX h A n) {q i : Nat} (hq : lvQ n q) (hi : i < 16) : gL h 2 1 (some (A (1000 + (16 * q + i)))) = some (fL h 201 (A (1000 + (16 * q + i)))) := gL_ok (c := 2) 1 (kE S hq hi)
theorem pX2_1 {h : IH} {A : Nat → Nat} {n : Nat} (S : ShX h A n) {q i : Nat} (hq : lvQ n q) (hi : i < 16) (v : Int64) : pL h 2 1 (some (A (1000 + (16 * q + i)))) v = some (wfL h 201 (A (1000 + (16 * q + i))) v) := pL_ok (c := 2) 1 v (kE S hq hi)
theorem gX2_2 {h : IH} {A : Nat → Nat} {n : Nat} (S : ShX h A n) {q i : Nat} (hq : lvQ n q) (hi : i < 16) : gL h 2 2 (some (A (1000 + (16 * q + i)))) = some (fL h 202 (A (1000 + (16 * q + i)))) := gL_ok (c := 2) 2 (kE S hq hi)
theorem pX2_2 {h : IH} {A : Nat → Nat} {n : Nat} (S : ShX h A n) {q i : Nat} (hq : lvQ n q) (hi : i < 16) (v : Int64) : pL h 2 2 (some (A (1000 + (16 * q + i)))) v = some (wfL h 202 (A (1000 + (16 * q + i))) v) := pL_ok (c := 2) 2 v (kE S hq hi)
theorem gX2_3 {h : IH} {A : Nat → Nat} {n : Nat} (S : ShX h A n) {q i : Nat} (hq : lvQ n q) (hi : i < 16) : gL h 2 3 (some (A (1000 + (16 * q + i)))) = some (fL h 203 (A (1000 + (16 * q + i)))) := gL_ok (c := 2) 3 (kE S hq hi)
theorem pX2_3 {h : IH} {A : Nat → Nat} {n : Nat} (S : ShX h A n) {q i : Nat} (hq : lvQ n q) (hi : i < 16) (v : Int64) : pL h 2 3 (some (A (1000 + (16 * q + i)))) v = some (wfL h 203 (A (1000 + (16 * q + i))) v) := pL_ok (c := 2) 3 v (kE S hq hi)
theorem rX4 {h : IH} {A : Nat → Nat} {n : Nat} (S : ShX h A n) {s : Nat} (hs : s < n) : aR h 5 (some (A 4)) (nI s) = some (some (A (100 + s))) := by
  have h1 := lA S (i := 4) (lv_lit (by decide) (by decide)) (by decide)
  have h0 := S.1
  have h2 : LX 4 = 12 := rfl
  rw [aR_ok (k := 5) (kA S (i := 4) (lv_lit (by decide) (by decide))) (by omega) (by omega)]
  exact congrArg some (S.2.2.2.2.2.2.2.1 s hs).1
theorem rX120 {h : IH} {A : Nat → Nat} {n : Nat} (S : ShX h A n) {s b : Nat} (hs : s < n) (hb : b < 3) : aR h 4 (some (A (120 + s))) (nI b) = some (some (A (200 + (3 * s + b)))) := by
  have h0 := S.1
  have h3 := KX_la (s := s) (by omega)
  have h1 := lA S (i := 120 + s) (lv_la hs) (by omega)
  have h2 : LX (120 + s) = 3 := by
    unfold LX
    rw [if_neg (by omega), if_pos (by omega)]
  rw [aR_ok (k := 4) (by rw [kA S (lv_la hs), h3]) (by omega) (by omega)]
  exact congrArg some ((S.2.2.2.2.2.2.2.1 s hs).2.2 b hb)
theorem lX120 {h : IH} {A : Nat → Nat} {n : Nat} (S : ShX h A n) {s : Nat} (hs : s < n) : lnO h (some (A (120 + s))) = some 3 := by
  have h0 := S.1
  have h3 := KX_la (s := s) (by omega)
  have h1 := lA S (i := 120 + s) (lv_la hs) (by omega)
  have h2 : LX (120 + s) = 3 := by
    unfold LX
    rw [if_neg (by omega), if_pos (by omega)]
  have h4 := kA S (lv_la hs)
  show (if 20 ≤ kd h (A (120 + s)) ∧ kd h (A (120 + s)) < 27 then some (nI (ln h (A (120 + s)))) else none) = some 3
  rw [if_pos (by omega), h1, h2]
  rfl
theorem rX300 {h : IH} {A : Nat → Nat} {n : Nat} (S : ShX h A n) {q i : Nat} (hq : lvQ n q) (hi : i < 16) : aR h 3 (some (A (300 + q))) (nI i) = some (some (A (1000 + (16 * q + i)))) := by
  have h0 := lvQ_lt S.1 hq
  have h3 := KX_rw (q := q) (by omega)
  have h1 := lA S (i := 300 + q) (lv_rw S.1 hq) (by omega)
  have h2 : LX (300 + q) = 16 := by
    unfold LX
    rw [if_neg (by omega), if_neg (by omega)]
  rw [aR_ok (k := 3) (by rw [kA S (lv_rw S.1 hq), h3]) (by omega) (by omega)]
  exact congrArg some ((S.2.2.2.2.2.2.2.2 q hq).2 i hi)
theorem lA1 {h : IH} {A : Nat → Nat} {n : Nat} (S : ShX h A n) {i k z : Nat} (hi : i < 90) (hk : KX i = k) (h20 : 20 ≤ k) (hl : LX i = z) (hz : z < 4000) : kd h (A i) = k ∧ ln h (A i) = z ∧ ln h (A i) < 2 ^ 31 := by
  have h1 : lvX n i := lv_lit hi (by omega)
  have h2 := lA S h1 (by omega)
  exact ⟨by rw [kA S h1, hk], by omega, by omega⟩
theorem aXI {h : IH} {A : Nat → Nat} {n : Nat} (S : ShX h A n) (i : Nat) {j : Nat} (hi : i < 90) (hk : KX i = 20) (hl : LX i < 4000) (hj : j < LX i) : aI h (some (A i)) (nI j) = some (rI h (A i) j) := by
  obtain ⟨h1, h2, h3⟩ := lA1 S hi hk (by omega) rfl hl
  exact aI_ok h1 (by omega) h3
theorem sXI {h : IH} {A : Nat → Nat} {n : Nat} (S : ShX h A n) (i : Nat) {j : Nat} (v : Int32) (hi : i < 90) (hk : KX i = 20) (hl : LX i < 4000) (hj : j < LX i) : sI h (some (A i)) (nI j) v = some (setI h (A i) (upd (rI h (A i)) j v)) := by
  obtain ⟨h1, h2, h3⟩ := lA1 S hi hk (by omega) rfl hl
  exact sI_ok v h1 (by omega) h3
theorem aXJ {h : IH} {A : Nat → Nat} {n : Nat} (S : ShX h A n) (i : Nat) {j : Nat} (hi : i < 90) (hk : KX i = 21) (hl : LX i < 4000) (hj : j < LX i) : aJ h (some (A i)) (nI j) = some (rL h (A i) j) := by
  obtain ⟨h1, h2, h3⟩ := lA1 S hi hk (by omega) rfl hl
  exact aJ_ok h1 (by omega) h3
theorem sXJ {h : IH} {A : Nat → Nat} {n : Nat} (S : ShX h A n) (i : Nat) {j : Nat} (v : Int64) (hi : i < 90) (hk : KX i = 21) (hl : LX i < 4000) (hj : j < LX i) : sJ h (some (A i)) (nI j) v = some (setJ h (A i) (vp_updL (rL h (A i)) j v)) := by
  obtain ⟨h1, h2, h3⟩ := lA1 S hi hk (by omega) rfl hl
  exact sJ_ok v h1 (by omega) h3
theorem aXZ {h : IH} {A : Nat → Nat} {n : Nat} (S : ShX h A n) (i : Nat) {j : Nat} (hi : i < 90) (hk : KX i = 22) (hl : LX i < 4000) (hj : j < LX i) : aZ h (some (A i)) (nI j) = some (rI h (A i) j) := by
  obtain ⟨h1, h2, h3⟩ := lA1 S hi hk (by omega) rfl hl
  exact aZ_ok h1 (by omega) h3
theorem sXZ {h : IH} {A : Nat → Nat} {n : Nat} (S : ShX h A n) (i : Nat) {j : Nat} {v : Int32} (hi : i < 90) (hk : KX i = 22) (hl : LX i < 4000) (hj : j < LX i) (hv : v = 0 ∨ v = 1) : sZ h (some (A i)) (nI j) v = some (setI h (A i) (upd (rI h (A i)) j v)) := by
  obtain ⟨h1, h2, h3⟩ := lA1 S hi hk (by omega) rfl hl
  exact sZ_ok h1 (by omega) h3 hv
theorem gridX {h : IH} {A : Nat → Nat} {n : Nat} (S : ShX h A n) (i : Nat) {j : Nat} (hi : i < 90) (hk : KX i = 26) (hl : LX i < 4000) (hj : j < LX i) : aR h 6 (some (A i)) (nI j) = some (rR h (A i) j) := by
  obtain ⟨h1, h2, h3⟩ := lA1 S hi hk (by omega) rfl hl
  exact aR_ok (k := 6) h1 (by omega) h3
theorem rX18 {h : IH} {A : Nat → Nat} {n : Nat} (S : ShX h A n) {j : Nat} (hj : j < 16) : aR h 6 (some (A 18)) (nI j) = some (some (A (30 + j))) := by
  rw [gridX S 18 (by decide) (by decide) (by decide) (show j < LX 18 from hj)]
  exact congrArg some (S.2.2.2.2.1 j hj)
theorem rX19 {h : IH} {A : Nat → Nat} {n : Nat} (S : ShX h A n) {j : Nat} (hj : j < 17) : aR h 6 (some (A 19)) (nI j) = some (some (A (50 + j))) := by
  rw [gridX S 19 (by decide) (by decide) (by decide) (show j < LX 19 from hj)]
  exact congrArg some (S.2.2.2.2.2.1 j hj)
theorem rX25 {h : IH} {A : Nat → Nat} {n : Nat} (S : ShX h A n) {j : Nat} (hj : j < 20) : aR h 6 (some (A 25)) (nI j) = some (some (A (70 + j))) := by
  rw [gridX S 25 (by decide) (by decide) (by decide) (show j < LX 25 from hj)]
  exact congrArg some (S.2.2.2.2.2.2.1 j hj)
theorem wRow : ∀ j, j < 16 → KX (30 + j) = 20 ∧ LX (30 + j) = 16 := by decide
theorem bRow : ∀ j, j < 17 → KX (50 + j) = 20 ∧ LX (50 + j) = 17 := by decide
theorem eRow : ∀ j, j < 20 → KX (70 + j) = 20 ∧ LX (70 + j) = 12 := by decide
