/-! ===== the pure part: reading and writing the ideal heap ===== -/
def setI (h : IH) (a : Nat) (f : Nat → Int32) : IH := (h.1, h.2.1, h.2.2.1, h.2.2.2.1, h.2.2.2.2.1, h.2.2.2.2.2.1, (fun x => if x = a then f else h.2.2.2.2.2.2.1 x), h.2.2.2.2.2.2.2)
def setJ (h : IH) (a : Nat) (f : Nat → Int64) : IH := (h.1, h.2.1, h.2.2.1, h.2.2.2.1, h.2.2.2.2.1, h.2.2.2.2.2.1, h.2.2.2.2.2.2.1, (fun x => if x = a then f else h.2.2.2.2.2.2.2.1 x), h.2.2.2.2.2.2.2.2)
theorem wrI_set (h : IH) (a j : Nat) (v : Int32) : wrI h a j v = setI h a (upd (rI h a) j v) := by
  have e : u2 h.2.2.2.2.2.2.1 a j v = fun x => if x = a then upd (rI h a) j v else h.2.2.2.2.2.2.1 x := by
    funext x y
    by_cases e : x = a
    · subst e
      simp [u2, upd, rI]
    · simp [u2, e]
  unfold wrI setI
  rw [e]
theorem wrL_set (h : IH) (a j : Nat) (v : Int64) : wrL h a j v = setJ h a (vp_updL (rL h a) j v) := by
  have e : u2 h.2.2.2.2.2.2.2.1 a j v = fun x => if x = a then vp_updL (rL h a) j v else h.2.2.2.2.2.2.2.1 x := by
    funext x y
    by_cases e : x = a
    · subst e
      simp [u2, vp_updL, rL]
    · simp [u2, e]
  unfold wrL setJ
  rw [e]
theorem setI_setI (h : IH) (a : Nat) (f g : Nat → Int32) : setI (setI h a f) a g = setI h a g := by
  have e : (fun x => if x = a then g else (setI h a f).2.2.2.2.2.2.1 x) = fun x => if x = a then g else h.2.2.2.2.2.2.1 x := by
    funext x
    by_cases e : x = a
    · simp [e]
    · simp [e, setI]
  show (_, _, _, _, _, _, (fun x => if x = a then g else (setI h a f).2.2.2.2.2.2.1 x), _) = _
  rw [e]
  rfl
theorem setJ_setJ (h : IH) (a : Nat) (f g : Nat → Int64) : setJ (setJ h a f) a g = setJ h a g := by
  have e : (fun x => if x = a then g else (setJ h a f).2.2.2.2.2.2.2.1 x) = fun x => if x = a then g else h.2.2.2.2.2.2.2.1 x := by
    funext x
    by_cases e : x = a
    · simp [e]
    · simp [e, setJ]
  show (_, _, _, _, _, _, _, (fun x => if x = a then g else (setJ h a f).2.2.2.2.2.2.2.1 x), _) = _
  rw [e]
  rfl
theorem u2_u2 {α : Type} (f : Nat → Nat → α) (a b : Nat) (v w : α) : u2 (u2 f a b v) a b w = u2 f a b w := by
  funext x y
  unfold u2
  by_cases h1 : x = a
  · by_cases h2 : y = b
    · simp [h1, h2]
    · simp [h1, h2]
  · simp [h1]
theorem wfI_wfI (h : IH) (f a : Nat) (v w : Int32) : wfI (wfI h f a v) f a w = wfI h f a w := by
  show (_, _, u2 (u2 h.2.2.1 f a v) f a w, _) = _
  rw [u2_u2]
  rfl
theorem wfL_wfL (h : IH) (f a : Nat) (v w : Int64) : wfL (wfL h f a v) f a w = wfL h f a w := by
  show (_, _, _, u2 (u2 h.2.2.2.1 f a v) f a w, _) = _
  rw [u2_u2]
  rfl
theorem fI_wfI (h : IH) (f a : Nat) (v : Int32) : fI (wfI h f a v) f a = v := u2_same
theorem fI_wfI_ne (h : IH) {f a f' a' : Nat} (v : Int32) (hn : f' ≠ f) : fI (wfI h f a v) f' a' = fI h f' a' := u2_ne1 hn
theorem fL_wfL (h : IH) (f a : Nat) (v : Int64) : fL (wfL h f a v) f a = v := u2_same
theorem fL_wfL_ne (h : IH) {f a f' a' : Nat} (v : Int64) (hn : f' ≠ f) : fL (wfL h f a v) f' a' = fL h f' a' := u2_ne1 hn
theorem rI_setI (h : IH) (a : Nat) (f : Nat → Int32) : rI (setI h a f) a = f := by
  show (if a = a then f else _) = f
  rw [if_pos rfl]
theorem rI_setI_ne (h : IH) {a b : Nat} (f : Nat → Int32) (hn : b ≠ a) : rI (setI h a f) b = rI h b := by
  show (if b = a then f else h.2.2.2.2.2.2.1 b) = _
  rw [if_neg hn]
  rfl
theorem rL_setJ (h : IH) (a : Nat) (f : Nat → Int64) : rL (setJ h a f) a = f := by
  show (if a = a then f else _) = f
  rw [if_pos rfl]
theorem rL_setJ_ne (h : IH) {a b : Nat} (f : Nat → Int64) (hn : b ≠ a) : rL (setJ h a f) b = rL h b := by
  show (if b = a then f else h.2.2.2.2.2.2.2.1 b) = _
  rw [if_neg hn]
  rfl
theorem gI_ok {h : IH} {c a : Nat} (k : Nat) (hk : kd h a = c + 1) : gI h c k (some a) = some (fI h (100 * c + k) a) := by simp [gI, hk]
theorem gL_ok {h : IH} {c a : Nat} (k : Nat) (hk : kd h a = c + 1) : gL h c k (some a) = some (fL h (100 * c + k) a) := by simp [gL, hk]
theorem gR_ok {h : IH} {c a : Nat} (k : Nat) (hk : kd h a = c + 1) : gR h c k (some a) = some (fR h (100 * c + k) a) := by simp [gR, hk]
theorem pI_ok {h : IH} {c a : Nat} (k : Nat) (v : Int32) (hk : kd h a = c + 1) : pI h c k (some a) v = some (wfI h (100 * c + k) a v) := by simp [pI, hk]
theorem pL_ok {h : IH} {c a : Nat} (k : Nat) (v : Int64) (hk : kd h a = c + 1) : pL h c k (some a) v = some (wfL h (100 * c + k) a v) := by simp [pL, hk]
theorem pZ_ok {h : IH} {c a : Nat} (k : Nat) {v : Int32} (hk : kd h a = c + 1) (hv : v = 0 ∨ v = 1) : pZ h c k (some a) v = some (wfI h (100 * c + k) a v) := by simp [pZ, hk, hv]
theorem in_ok {j n : Nat} (hj : j < n) (hn : n < 2 ^ 31) : ¬ (nI j < 0 ∨ n ≤ (nI j).toNatClampNeg) := nI_in hj hn
theorem aI_ok {h : IH} {a j : Nat} (hk : kd h a = 20) (hj : j < ln h a) (hn : ln h a < 2 ^ 31) : aI h (some a) (nI j) = some (rI h a j) := by
  have h1 := in_ok hj hn
  have h2 : (nI j).toNatClampNeg = j := nI_clamp (by omega)
  show (if kd h a = 20 ∧ ¬ (nI j < 0 ∨ ln h a ≤ (nI j).toNatClampNeg) then some (rI h a (nI j).toNatClampNeg) else none) = _
  rw [if_pos ⟨hk, h1⟩, h2]
theorem aJ_ok {h : IH} {a j : Nat} (hk : kd h a = 21) (hj : j < ln h a) (hn : ln h a < 2 ^ 31) : aJ h (some a) (nI j) = some (rL h a j) := by
  have h1 := in_ok hj hn
  have h2 : (nI j).toNatClampNeg = j := nI_clamp (by omega)
  show (if kd h a = 21 ∧ ¬ (nI j < 0 ∨ ln h a ≤ (nI j).toNatClampNeg) then some (rL h a (nI j).toNatClampNeg) else none) = _
  rw [if_pos ⟨hk, h1⟩, h2]
theorem aZ_ok {h : IH} {a j : Nat} (hk : kd h a = 22) (hj : j < ln h a) (hn : ln h a < 2 ^ 31) : aZ h (some a) (nI j) = some (rI h a j) := by
  have h1 := in_ok hj hn
  have h2 : (nI j).toNatClampNeg = j := nI_clamp (by omega)
  show (if kd h a = 22 ∧ ¬ (nI j < 0 ∨ ln h a ≤ (nI j).toNatClampNeg) then some (rI h a (nI j).toNatClampNeg) else none) = _
  rw [if_pos ⟨hk, h1⟩, h2]
theorem aR_ok {h : IH} {k a j : Nat} (hk : kd h a = 20 + k) (hj : j < ln h a) (hn : ln h a < 2 ^ 31) : aR h k (some a) (nI j) = some (rR h a j) := by
  have h1 := in_ok hj hn
  have h2 : (nI j).toNatClampNeg = j := nI_clamp (by omega)
  show (if kd h a = 20 + k ∧ ¬ (nI j < 0 ∨ ln h a ≤ (nI j).toNatClampNeg) then some (rR h a (nI j).toNatClampNeg) else none) = _
  rw [if_pos ⟨hk, h1⟩, h2]
theorem sI_ok {h : IH} {a j : Nat} (v : Int32) (hk : kd h a = 20) (hj : j < ln h a) (hn : ln h a < 2 ^ 31) : sI h (some a) (nI j) v = some (setI h a (upd (rI h a) j v)) := by
  have h1 := in_ok hj hn
  have h2 : (nI j).toNatClampNeg = j := nI_clamp (by omega)
  show (if kd h a = 20 ∧ ¬ (nI j < 0 ∨ ln h a ≤ (nI j).toNatClampNeg) then some (wrI h a (nI j).toNatClampNeg v) else none) = _
  rw [if_pos ⟨hk, h1⟩, h2, wrI_set]
theorem sZ_ok {h : IH} {a j : Nat} {v : Int32} (hk : kd h a = 22) (hj : j < ln h a) (hn : ln h a < 2 ^ 31) (hv : v = 0 ∨ v = 1) : sZ h (some a) (nI j) v = some (setI h a (upd (rI h a) j v)) := by
  have h1 := in_ok hj hn
  have h2 : (nI j).toNatClampNeg = j := nI_clamp (by omega)
  show (if (kd h a = 22 ∧ ¬ (nI j < 0 ∨ ln h a ≤ (nI j).toNatClampNeg)) ∧ (v = 0 ∨ v = 1) then some (wrI h a (nI j).toNatClampNeg v) else none) = _
  rw [if_pos ⟨⟨hk, h1⟩, hv⟩, h2, wrI_set]
theorem sJ_ok {h : IH} {a j : Nat} (v : Int64) (hk : kd h a = 21) (hj : j < ln h a) (hn : ln h a < 2 ^ 31) : sJ h (some a) (nI j) v = some (setJ h a (vp_updL (rL h a) j v)) := by
  have h1 := in_ok hj hn
  have h2 : (nI j).toNatClampNeg = j := nI_clamp (by omega)
  show (if kd h a = 21 ∧ ¬ (nI j < 0 ∨ ln h a ≤ (nI j).toNatClampNeg) then some (wrL h a (nI j).toNatClampNeg v) else none) = _
  rw [if_pos ⟨hk, h1⟩, h2, wrL_set]
theorem cV_ok {α : Type} {h : IH} {c a : Nat} (f : Nat → Option α) (hk : kd h a = c + 1) : cV h c (some a) f = f a := by simp [cV, hk]
/-! numbers -/
theorem lc_lt (x y : Int64) : lg_cmp x y < 0 ↔ x < y := by
  unfold lg_cmp
  by_cases h1 : x > y
  · rw [if_pos h1]
    have h1 : y.toInt < x.toInt := Int64.lt_iff_toInt_lt.mp h1
    constructor
    · intro h
      exact absurd h (by decide)
    · intro h
      have h := Int64.lt_iff_toInt_lt.mp h
      omega
  · rw [if_neg h1]
    by_cases h2 : x = y
    · rw [if_pos h2, h2]
      constructor
      · intro h
        exact absurd h (by decide)
      · intro h
        have h := Int64.lt_iff_toInt_lt.mp h
        omega
    · rw [if_neg h2]
      refine ⟨fun _ => ?_, fun _ => by decide⟩
      have h3 : ¬ y.toInt < x.toInt := fun z => h1 (Int64.lt_iff_toInt_lt.mpr z)
      have h4 : x.toInt ≠ y.toInt := fun z => h2 (Int64.toInt_inj.mp z)
      exact Int64.lt_iff_toInt_lt.mpr (by omega)
theorem lc_gt (x y : Int64) : 0 < lg_cmp x y ↔ y < x := by
  unfold lg_cmp
  by_cases h1 : x > y
  · rw [if_pos h1]
    exact ⟨fun _ => h1, fun _ => by decide⟩
  · rw [if_neg h1]
    refine ⟨fun h => ?_, fun h => absurd h h1⟩
    by_cases h2 : x = y
    · rw [if_pos h2] at h
      exact absurd h (by decide)
    · rw [if_neg h2] at h
      exact absurd h (by decide)
theorem lc_eq (x y : Int64) : lg_cmp x y = 0 ↔ x = y := by
  unfold lg_cmp
  by_cases h1 : x > y
  · rw [if_pos h1]
    refine ⟨fun h => absurd h (by decide), fun h => ?_⟩
    subst h
    have h1 := Int64.lt_iff_toInt_lt.mp h1
    omega
  · rw [if_neg h1]
    by_cases h2 : x = y
    · rw [if_pos h2]
      exact ⟨fun _ => h2, fun _ => rfl⟩
    · rw [if_neg h2]
      exact ⟨fun h => absurd h (by decide), fun h => absurd h h2⟩
theorem isIn_spec (h : IH) (v lo hi : Int64) : s_X12_isIn h v lo hi = some (if lo ≤ v ∧ v ≤ hi then 1 else 0) := by
  unfold s_X12_isIn
  by_cases h1 : v < lo
  · have h3 : ¬ (lo ≤ v ∧ v ≤ hi) := fun z => by
      have a := Int64.lt_iff_toInt_lt.mp h1
      have b := Int64.le_iff_toInt_le.mp z.1
      omega
    rw [if_pos ((lc_lt v lo).mpr h1), if_neg h3]
    rfl
  · rw [if_neg (fun z => h1 ((lc_lt v lo).mp z))]
    by_cases h2 : hi < v
    · have h3 : ¬ (lo ≤ v ∧ v ≤ hi) := fun z => by
        have a := Int64.lt_iff_toInt_lt.mp h2
        have b := Int64.le_iff_toInt_le.mp z.2
        omega
      rw [if_pos ((lc_gt v hi).mpr h2), if_neg h3]
      rfl
    · have h3 : lo ≤ v ∧ v ≤ hi := by
        have a : ¬ v.toInt < lo.toInt := fun z => h1 (Int64.lt_iff_toInt_lt.mpr z)
        have b : ¬ hi.toInt < v.toInt := fun z => h2 (Int64.lt_iff_toInt_lt.mpr z)
        exact ⟨Int64.le_iff_toInt_le.mpr (by omega), Int64.le_iff_toInt_le.mpr (by omega)⟩
      rw [if_neg (fun z => h2 ((lc_gt v hi).mp z)), if_pos h3]
      rfl
