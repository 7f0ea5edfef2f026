/-! ===== total outcomes; frames; numbers ===== -/
def Ok {α : Type} (o : Option α) (P : α → Prop) : Prop := ∃ a, o = some a ∧ P a
theorem Ok.ret {α : Type} {a : α} {P : α → Prop} (h : P a) : Ok (some a) P := ⟨a, rfl, h⟩
theorem Ok.eq {α : Type} {o : Option α} {a : α} {P : α → Prop} (e : o = some a) (h : P a) : Ok o P := ⟨a, e, h⟩
theorem Ok.bind {α β : Type} {o : Option α} {f : α → Option β} {Q : α → Prop} {P : β → Prop} (h : Ok o Q) (k : ∀ a, Q a → Ok (f a) P) : Ok (o.bind f) P := by
  obtain ⟨a, e, q⟩ := h
  rw [e]
  exact k a q
theorem Ok.mono {α : Type} {o : Option α} {P Q : α → Prop} (h : Ok o P) (k : ∀ a, P a → Q a) : Ok o Q := by
  obtain ⟨a, e, q⟩ := h
  exact ⟨a, e, k a q⟩
/-- h' differs from h at most in the int fields F, the long fields G, the int rows R, the long rows Q -/
def Fr (F G : Nat → Nat → Prop) (R Q : Nat → Prop) (h h' : IH) : Prop := kd h' = kd h ∧ ads h' = ads h ∧ fR h' = fR h ∧ ln h' = ln h ∧ rR h' = rR h ∧ (∀ f a, ¬ F f a → fI h' f a = fI h f a) ∧ (∀ f a, ¬ G f a → fL h' f a = fL h f a) ∧ (∀ a, ¬ R a → rI h' a = rI h a) ∧ ∀ a, ¬ Q a → rL h' a = rL h a
theorem Fr.refl {F G : Nat → Nat → Prop} {R Q : Nat → Prop} (h : IH) : Fr F G R Q h h := ⟨rfl, rfl, rfl, rfl, rfl, fun _ _ _ => rfl, fun _ _ _ => rfl, fun _ _ => rfl, fun _ _ => rfl⟩
theorem Fr.trans {F G : Nat → Nat → Prop} {R Q : Nat → Prop} {h h1 h2 : IH} (x : Fr F G R Q h h1) (y : Fr F G R Q h1 h2) : Fr F G R Q h h2 := by
  obtain ⟨a1, a2, a3, a4, a5, a6, a7, a8, a9⟩ := x
  obtain ⟨b1, b2, b3, b4, b5, b6, b7, b8, b9⟩ := y
  exact ⟨b1.trans a1, b2.trans a2, b3.trans a3, b4.trans a4, b5.trans a5, fun f a q => (b6 f a q).trans (a6 f a q), fun f a q => (b7 f a q).trans (a7 f a q), fun a q => (b8 a q).trans (a8 a q), fun a q => (b9 a q).trans (a9 a q)⟩
theorem Fr.mono {F G F' G' : Nat → Nat → Prop} {R Q R' Q' : Nat → Prop} {h h1 : IH} (x : Fr F G R Q h h1) (cF : ∀ f a, F f a → F' f a) (cG : ∀ f a, G f a → G' f a) (cR : ∀ a, R a → R' a) (cQ : ∀ a, Q a → Q' a) : Fr F' G' R' Q' h h1 := by
  obtain ⟨a1, a2, a3, a4, a5, a6, a7, a8, a9⟩ := x
  exact ⟨a1, a2, a3, a4, a5, fun f a q => a6 f a (fun z => q (cF f a z)), fun f a q => a7 f a (fun z => q (cG f a z)), fun a q => a8 a (fun z => q (cR a z)), fun a q => a9 a (fun z => q (cQ a z))⟩
theorem Fr.wI {F G : Nat → Nat → Prop} {R Q : Nat → Prop} (h : IH) (f a : Nat) (v : Int32) (c : F f a) : Fr F G R Q h (wfI h f a v) := by
  refine ⟨rfl, rfl, rfl, rfl, rfl, fun f' a' q => ?_, fun _ _ _ => rfl, fun _ _ => rfl, fun _ _ => rfl⟩
  show u2 (fI h) f a v f' a' = fI h f' a'
  by_cases e : f' = f
  · by_cases e2 : a' = a
    · subst e
      subst e2
      exact absurd c q
    · exact u2_ne2 e2
  · exact u2_ne1 e
theorem Fr.wL {F G : Nat → Nat → Prop} {R Q : Nat → Prop} (h : IH) (f a : Nat) (v : Int64) (c : G f a) : Fr F G R Q h (wfL h f a v) := by
  refine ⟨rfl, rfl, rfl, rfl, rfl, fun _ _ _ => rfl, fun f' a' q => ?_, fun _ _ => rfl, fun _ _ => rfl⟩
  show u2 (fL h) f a v f' a' = fL h f' a'
  by_cases e : f' = f
  · by_cases e2 : a' = a
    · subst e
      subst e2
      exact absurd c q
    · exact u2_ne2 e2
  · exact u2_ne1 e
theorem Fr.sI {F G : Nat → Nat → Prop} {R Q : Nat → Prop} (h : IH) (a : Nat) (g : Nat → Int32) (c : R a) : Fr F G R Q h (setI h a g) := ⟨rfl, rfl, rfl, rfl, rfl, fun _ _ _ => rfl, fun _ _ _ => rfl, fun a' q => rI_setI_ne h g (fun e => q (e ▸ c)), fun _ _ => rfl⟩
theorem Fr.sJ {F G : Nat → Nat → Prop} {R Q : Nat → Prop} (h : IH) (a : Nat) (g : Nat → Int64) (c : Q a) : Fr F G R Q h (setJ h a g) := ⟨rfl, rfl, rfl, rfl, rfl, fun _ _ _ => rfl, fun _ _ _ => rfl, fun _ _ => rfl, fun a' q => rL_setJ_ne h g (fun e => q (e ▸ c))⟩
theorem Fr.shX {F G : Nat → Nat → Prop} {R Q : Nat → Prop} {h h1 : IH} {A : Nat → Nat} {n : Nat} (x : Fr F G R Q h h1) (S : ShX h A n) : ShX h1 A n := by
  obtain ⟨a1, a2, a3, a4, a5, _⟩ := x
  unfold ShX at S ⊢
  rw [a1, a3, a4, a5]
  exact S
theorem Fr.shM {F G : Nat → Nat → Prop} {R Q : Nat → Prop} {h h1 : IH} {ar : Nat → Nat} {m : Nat} (x : Fr F G R Q h h1) (S : ShM h m ar) : ShM h1 m ar := by
  obtain ⟨a1, a2, a3, a4, a5, _⟩ := x
  unfold ShM at S ⊢
  rw [a1, a3, a4]
  exact S
theorem Fr.fI {F G : Nat → Nat → Prop} {R Q : Nat → Prop} {h h1 : IH} (x : Fr F G R Q h h1) {f a : Nat} (c : ¬ F f a) : fI h1 f a = fI h f a := x.2.2.2.2.2.1 f a c
theorem Fr.fL {F G : Nat → Nat → Prop} {R Q : Nat → Prop} {h h1 : IH} (x : Fr F G R Q h h1) {f a : Nat} (c : ¬ G f a) : fL h1 f a = fL h f a := x.2.2.2.2.2.2.1 f a c
theorem Fr.rI {F G : Nat → Nat → Prop} {R Q : Nat → Prop} {h h1 : IH} (x : Fr F G R Q h h1) {a : Nat} (c : ¬ R a) : rI h1 a = rI h a := x.2.2.2.2.2.2.2.1 a c
theorem Fr.rL {F G : Nat → Nat → Prop} {R Q : Nat → Prop} {h h1 : IH} (x : Fr F G R Q h h1) {a : Nat} (c : ¬ Q a) : rL h1 a = rL h a := x.2.2.2.2.2.2.2.2 a c
def no2 (_ _ : Nat) : Prop := False
def no1 (_ : Nat) : Prop := False
/-! numbers -/
theorem rng (v : Int32) (n : Nat) (hn : n < 2 ^ 31) : (∃ s, s < n ∧ v = nI s) ∨ (v < 0 ∨ (¬ v < 0 ∧ nI n ≤ v)) := by
  by_cases h : v < 0
  · exact Or.inr (Or.inl h)
  · obtain ⟨j, hj, rfl⟩ := nI_of h
    by_cases h1 : j < n
    · exact Or.inl ⟨j, h1, rfl⟩
    · exact Or.inr (Or.inr ⟨h, (nI_leI hn hj).mpr (by omega)⟩)
theorem i32_lo (x : Int32) : -2 ^ 31 ≤ x.toInt := Int32.le_toInt x
theorem i32_hi (x : Int32) : x.toInt < 2 ^ 31 := Int32.toInt_lt x
theorem i64_lo (x : Int64) : -2 ^ 63 ≤ x.toInt := Int64.le_toInt x
theorem i64_hi (x : Int64) : x.toInt < 2 ^ 63 := Int64.toInt_lt x
theorem bm32 {z : Int} (h1 : -2147483648 ≤ z) (h2 : z < 2147483648) : z.bmod (2 ^ 32) = z := Int.bmod_eq_of_le (by omega) (by omega)
theorem bm64 {z : Int} (h1 : -9223372036854775808 ≤ z) (h2 : z < 9223372036854775808) : z.bmod (2 ^ 64) = z := Int.bmod_eq_of_le (by omega) (by omega)
theorem ia {x y : Int32} (h1 : -2147483648 ≤ x.toInt + y.toInt) (h2 : x.toInt + y.toInt < 2147483648) : (x + y).toInt = x.toInt + y.toInt := by rw [Int32.toInt_add, bm32 h1 h2]
theorem is {x y : Int32} (h1 : -2147483648 ≤ x.toInt - y.toInt) (h2 : x.toInt - y.toInt < 2147483648) : (x - y).toInt = x.toInt - y.toInt := by rw [Int32.toInt_sub, bm32 h1 h2]
theorem im {x y : Int32} (h1 : -2147483648 ≤ x.toInt * y.toInt) (h2 : x.toInt * y.toInt < 2147483648) : (x * y).toInt = x.toInt * y.toInt := by rw [Int32.toInt_mul, bm32 h1 h2]
theorem la {x y : Int64} (h1 : -9223372036854775808 ≤ x.toInt + y.toInt) (h2 : x.toInt + y.toInt < 9223372036854775808) : (x + y).toInt = x.toInt + y.toInt := by rw [Int64.toInt_add, bm64 h1 h2]
theorem ls {x y : Int64} (h1 : -9223372036854775808 ≤ x.toInt - y.toInt) (h2 : x.toInt - y.toInt < 9223372036854775808) : (x - y).toInt = x.toInt - y.toInt := by rw [Int64.toInt_sub, bm64 h1 h2]
theorem lm {x y : Int64} (h1 : -9223372036854775808 ≤ x.toInt * y.toInt) (h2 : x.toInt * y.toInt < 9223372036854775808) : (x * y).toInt = x.toInt * y.toInt := by rw [Int64.toInt_mul, bm64 h1 h2]
theorem lng {x : Int64} (h1 : -9223372036854775808 < x.toInt) : (-x).toInt = -x.toInt := by
  have h2 := i64_hi x
  rw [Int64.toInt_neg, bm64 (by omega) (by omega)]
theorem il (x : Int32) : x.toInt64.toInt = x.toInt := Int32.toInt_toInt64 x
theorem li {x : Int64} (h1 : -2147483648 ≤ x.toInt) (h2 : x.toInt < 2147483648) : x.toInt32.toInt = x.toInt := by rw [Int64.toInt_toInt32, bm32 h1 h2]
theorem iLt {x y : Int32} : x < y ↔ x.toInt < y.toInt := Int32.lt_iff_toInt_lt
theorem iLe {x y : Int32} : x ≤ y ↔ x.toInt ≤ y.toInt := Int32.le_iff_toInt_le
theorem lLt {x y : Int64} : x < y ↔ x.toInt < y.toInt := Int64.lt_iff_toInt_lt
theorem lLe {x y : Int64} : x ≤ y ↔ x.toInt ≤ y.toInt := Int64.le_iff_toInt_le
theorem iEq {x y : Int32} : x = y ↔ x.toInt = y.toInt := ⟨fun h => h ▸ rfl, fun h => Int32.toInt_inj.mp h⟩
theorem lEq {x y : Int64} : x = y ↔ x.toInt = y.toInt := ⟨fun h => h ▸ rfl, fun h => Int64.toInt_inj.mp h⟩
theorem nIt {n : Nat} (h : n < 2147483648) : (nI n).toInt = n := nI_toInt h
theorem nI_sub {a b : Nat} (h : b ≤ a) : nI a - nI b = nI (a - b) := by
  obtain ⟨c, rfl⟩ : ∃ c, a = b + c := ⟨a - b, by omega⟩
  rw [← nI_add, Nat.add_sub_cancel_left]
  apply Int32.toInt_inj.mp
  rw [Int32.toInt_sub, Int32.toInt_add]
  have h1 : ((nI b).toInt + (nI c).toInt).bmod (2 ^ 32) - (nI b).toInt = ((nI b).toInt + (nI c).toInt).bmod (2 ^ 32) + -(nI b).toInt := by omega
  rw [h1, Int.bmod_add_bmod]
  have h2 : (nI b).toInt + (nI c).toInt + -(nI b).toInt = (nI c).toInt := by omega
  rw [h2]
  have h3 := i32_lo (nI c)
  have h4 := i32_hi (nI c)
  exact bm32 (by omega) (by omega)
theorem nI_mul (a b : Nat) : nI a * nI b = nI (a * b) := by
  show Int32.ofNat a * Int32.ofNat b = Int32.ofNat (a * b)
  rw [Int32.ofNat_mul]
theorem z1 {q : Int32} (h : q = 0 ∨ q = 1) : (if q = 0 ∨ q = 1 then some q else none : Option Int32) = some q := if_pos h
theorem below_spec (h : IH) (v b : Int32) : s_X11_isBelow h v b = some (if 0 ≤ v ∧ v < b then 1 else 0) := by
  unfold s_X11_isBelow
  have e1 : (v < 0) ↔ ¬ (0 ≤ v) := by rw [iLt, iLe]; omega
  have e2 : (b ≤ v) ↔ ¬ (v < b) := by rw [iLt, iLe]; omega
  by_cases h1 : 0 ≤ v
  · rw [if_neg (fun z => (e1.mp z) h1)]
    by_cases h2 : v < b
    · rw [if_neg (fun z => (e2.mp z) h2), if_pos ⟨h1, h2⟩]
      rfl
    · rw [if_pos (e2.mpr h2), if_neg (fun z => h2 z.2)]
      rfl
  · rw [if_pos (e1.mpr h1), if_neg (fun z => h1 z.1)]
    rfl
/-! skipping bytes: from k on, at most r of them, while q holds -/
def scn (b : Nat → Int32) (q : Int32 → Bool) : Nat → Nat → Nat
  | 0, k => k
  | r + 1, k => if q (b k) then scn b q r (k + 1) else k
theorem scn_bd (b : Nat → Int32) (q : Int32 → Bool) : ∀ r k, k ≤ scn b q r k ∧ scn b q r k ≤ k + r := by
  intro r
  induction r with
  | zero => intro k; exact ⟨Nat.le_refl _, Nat.le_refl _⟩
  | succ r ih =>
    intro k
    unfold scn
    split
    · have := ih (k + 1)
      omega
    · omega
theorem scn_in (b : Nat → Int32) (q : Int32 → Bool) : ∀ r k j, k ≤ j → j < scn b q r k → q (b j) = true := by
  intro r
  induction r with
  | zero =>
    intro k j h1 h2
    have : scn b q 0 k = k := rfl
    omega
  | succ r ih =>
    intro k j h1 h2
    unfold scn at h2
    split at h2
    · rename_i hq
      by_cases e : j = k
      · subst e
        exact hq
      · exact ih (k + 1) j (by omega) h2
    · omega
theorem scn_end (b : Nat → Int32) (q : Int32 → Bool) : ∀ r k, scn b q r k < k + r → q (b (scn b q r k)) = false := by
  intro r
  induction r with
  | zero =>
    intro k h2
    have : scn b q 0 k = k := rfl
    omega
  | succ r ih =>
    intro k h2
    unfold scn at h2 ⊢
    split at h2
    · rename_i hq
      rw [if_pos hq]
      exact ih (k + 1) (by omega)
    · rename_i hq
      rw [if_neg hq]
      exact Bool.eq_false_iff.mpr hq
theorem scn_congr {b b' : Nat → Int32} (q : Int32 → Bool) : ∀ r k, (∀ j, k ≤ j → j < k + r → b j = b' j) → scn b q r k = scn b' q r k := by
  intro r
  induction r with
  | zero => intro k _; rfl
  | succ r ih =>
    intro k hb
    unfold scn
    rw [hb k (by omega) (by omega), ih (k + 1) (fun j h1 h2 => hb j (by omega) (by omega))]
def isSp (c : Int32) : Bool := c == 32
def noSp (c : Int32) : Bool := !(c == 32)
def noNl (c : Int32) : Bool := !(c == 10)
/-- the next word before l, from c on: its first place and its end -/
def nxS (b : Nat → Int32) (l c : Nat) : Nat := scn b isSp (l - c) c
def nxE (b : Nat → Int32) (l c : Nat) : Nat := scn b noSp (l - nxS b l c) (nxS b l c)
def lnE (b : Nat → Int32) (l c : Nat) : Nat := scn b noNl (l - c) c
theorem nx_bd (b : Nat → Int32) {l c : Nat} (h : c ≤ l) : c ≤ nxS b l c ∧ nxS b l c ≤ nxE b l c ∧ nxE b l c ≤ l := by
  have h1 := scn_bd b isSp (l - c) c
  have h2 := scn_bd b noSp (l - nxS b l c) (nxS b l c)
  unfold nxS at h2 ⊢
  unfold nxE nxS
  omega
theorem lnE_bd (b : Nat → Int32) {l c : Nat} (h : c ≤ l) : c ≤ lnE b l c ∧ lnE b l c ≤ l := by
  have h1 := scn_bd b noNl (l - c) c
  unfold lnE
  omega
theorem nx_congr {b b' : Nat → Int32} {l c : Nat} (hc : c ≤ l) (hb : ∀ j, j < l → b j = b' j) : nxS b l c = nxS b' l c ∧ nxE b l c = nxE b' l c := by
  have e1 : nxS b l c = nxS b' l c := scn_congr isSp _ _ (fun j h1 h2 => hb j (by omega))
  refine ⟨e1, ?_⟩
  have h2 := (nx_bd b hc).2
  unfold nxE
  rw [← e1]
  exact scn_congr noSp _ _ (fun j h1 h2 => hb j (by omega))
theorem lnE_congr {b b' : Nat → Int32} {l c : Nat} (hc : c ≤ l) (hb : ∀ j, j < l → b j = b' j) : lnE b l c = lnE b' l c := scn_congr noNl _ _ (fun j h1 h2 => hb j (by omega))
