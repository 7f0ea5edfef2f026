/-! ===== the ideal heap of the walked classes: by field and by array row; kinds: 0 nothing, 1 + c an object of class c (its place in vwCl), 20 + k an array (k: 0 int, 1 long, 2 boolean, 3 Entry, 4 Log, 5 Station, 6 int[]) ===== -/
abbrev IH : Type := (Nat → Nat) × List Nat × (Nat → Nat → Int32) × (Nat → Nat → Int64) × (Nat → Nat → Option Nat) × (Nat → Nat) × (Nat → Nat → Int32) × (Nat → Nat → Int64) × (Nat → Nat → Option Nat)
def kd (h : IH) : Nat → Nat := h.1
def ads (h : IH) : List Nat := h.2.1
def fI (h : IH) : Nat → Nat → Int32 := h.2.2.1
def fL (h : IH) : Nat → Nat → Int64 := h.2.2.2.1
def fR (h : IH) : Nat → Nat → Option Nat := h.2.2.2.2.1
def ln (h : IH) : Nat → Nat := h.2.2.2.2.2.1
def rI (h : IH) : Nat → Nat → Int32 := h.2.2.2.2.2.2.1
def rL (h : IH) : Nat → Nat → Int64 := h.2.2.2.2.2.2.2.1
def rR (h : IH) : Nat → Nat → Option Nat := h.2.2.2.2.2.2.2.2
def u2 {α : Type} (f : Nat → Nat → α) (a b : Nat) (v : α) : Nat → Nat → α := fun x y => if x = a then (if y = b then v else f x y) else f x y
def wfI (h : IH) (f a : Nat) (v : Int32) : IH := (h.1, h.2.1, u2 h.2.2.1 f a v, h.2.2.2)
def wfL (h : IH) (f a : Nat) (v : Int64) : IH := (h.1, h.2.1, h.2.2.1, u2 h.2.2.2.1 f a v, h.2.2.2.2)
def wfR (h : IH) (f a : Nat) (v : Option Nat) : IH := (h.1, h.2.1, h.2.2.1, h.2.2.2.1, u2 h.2.2.2.2.1 f a v, h.2.2.2.2.2)
def wrI (h : IH) (a j : Nat) (v : Int32) : IH := (h.1, h.2.1, h.2.2.1, h.2.2.2.1, h.2.2.2.2.1, h.2.2.2.2.2.1, u2 h.2.2.2.2.2.2.1 a j v, h.2.2.2.2.2.2.2)
def wrL (h : IH) (a j : Nat) (v : Int64) : IH := (h.1, h.2.1, h.2.2.1, h.2.2.2.1, h.2.2.2.2.1, h.2.2.2.2.2.1, h.2.2.2.2.2.2.1, u2 h.2.2.2.2.2.2.2.1 a j v, h.2.2.2.2.2.2.2.2)
def wrR (h : IH) (a j : Nat) (v : Option Nat) : IH := (h.1, h.2.1, h.2.2.1, h.2.2.2.1, h.2.2.2.2.1, h.2.2.2.2.2.1, h.2.2.2.2.2.2.1, h.2.2.2.2.2.2.2.1, u2 h.2.2.2.2.2.2.2.2 a j v)
def newO (h : IH) (c q : Nat) : IH := (va_up h.1 q (c + 1), h.2.1 ++ [q], (fun f a => if a = q then 0 else fI h f a), (fun f a => if a = q then 0 else fL h f a), (fun f a => if a = q then none else fR h f a), h.2.2.2.2.2)
def newA (h : IH) (k n q : Nat) : IH := (va_up h.1 q (20 + k), h.2.1 ++ [q], h.2.2.1, h.2.2.2.1, h.2.2.2.2.1, va_up (ln h) q n, (fun x y => if x = q then 0 else rI h x y), (fun x y => if x = q then 0 else rL h x y), (fun x y => if x = q then none else rR h x y))
theorem u2_same {α : Type} {f : Nat → Nat → α} {a b : Nat} {v : α} : u2 f a b v a b = v := by simp [u2]
theorem u2_ne1 {α : Type} {f : Nat → Nat → α} {a b x y : Nat} {v : α} (h : x ≠ a) : u2 f a b v x y = f x y := by simp [u2, h]
theorem u2_ne2 {α : Type} {f : Nat → Nat → α} {a b x y : Nat} {v : α} (h : y ≠ b) : u2 f a b v x y = f x y := by
  unfold u2
  split <;> simp [h]
theorem u2_row {f : Nat → Nat → Int32} {a j : Nat} {v : Int32} : u2 f a j v a = upd (f a) j v := by
  funext y
  simp [u2, upd]
/-- what a field is: 0 an int (or boolean), 1 a long, 2 a reference -/
def fT (c : Nat) : List Nat := match c with
  | 0 => [2, 2, 2, 0, 0]
  | 1 => [2, 2, 2, 0, 0]
  | 2 => [0, 1, 1, 1, 0, 0, 0, 0, 0, 0, 0]
  | 3 => [2, 0, 2, 2, 0, 2, 0]
  | 4 => [2, 0, 0]
  | 5 => [2, 2, 2, 0, 2]
  | 6 => [2, 2, 2, 2, 0, 0, 2, 2]
  | 7 => [2, 0]
  | 8 => [2, 2, 0]
  | 9 => [0, 0, 0, 0, 1, 2, 0, 0, 1]
  | 10 => [2, 0, 0, 0, 0, 0]
  | 11 => [2, 2, 2, 2, 2, 2, 2, 2, 0, 0, 0, 0, 0, 0]
  | 12 => [0, 0, 2, 2, 2, 2, 2, 2, 2, 2, 2, 2, 2, 2, 2, 2, 2, 0, 2, 2, 2, 0, 0, 0, 2, 2, 2, 2, 2, 0, 0, 2, 0, 2, 2, 2, 0, 0, 0, 0, 0, 0, 0, 0, 0, 1, 1, 0, 0, 0, 0, 2, 0, 0, 0, 0, 0, 0, 0, 2, 2, 2, 2, 2, 2, 2, 2, 0, 1, 2]
  | _ => []
def fV (h : IH) (c a k t : Nat) : Value := match t with
  | 0 => .int (fI h (100 * c + k) a)
  | 1 => .long (fL h (100 * c + k) a)
  | _ => va_rf (fR h (100 * c + k) a)
def flds (h : IH) (c a : Nat) : List Value := (fT c).mapIdx (fun k t => fV h c a k t)
def ent (cy : Nat → ClassId) (h : IH) (a : Nat) : va_E :=
  if kd h a < 20 then .inr (kd h a - 1, flds h (kd h a - 1) a)
  else if kd h a = 21 then .inl (cy 1, ln h a, .inr (.inl (rL h a)))
  else if kd h a = 20 ∨ kd h a = 22 then .inl (cy (kd h a - 20), ln h a, .inl (rI h a))
  else .inl (cy (kd h a - 20), ln h a, .inr (.inr (.inr (.inr (rR h a)))))
theorem ent_o {cy : Nat → ClassId} {h : IH} {a c : Nat} (hk : kd h a = c + 1) (hc : c < 19) : ent cy h a = .inr (c, flds h c a) := by
  have h1 : kd h a < 20 := by omega
  have h2 : kd h a - 1 = c := by omega
  unfold ent
  rw [if_pos h1, h2]
theorem ent_I {cy : Nat → ClassId} {h : IH} {a : Nat} (hk : kd h a = 20) : ent cy h a = .inl (cy 0, ln h a, .inl (rI h a)) := by simp [ent, hk]
theorem ent_Z {cy : Nat → ClassId} {h : IH} {a : Nat} (hk : kd h a = 22) : ent cy h a = .inl (cy 2, ln h a, .inl (rI h a)) := by simp [ent, hk]
theorem ent_J {cy : Nat → ClassId} {h : IH} {a : Nat} (hk : kd h a = 21) : ent cy h a = .inl (cy 1, ln h a, .inr (.inl (rL h a))) := by simp [ent, hk]
theorem ent_R {cy : Nat → ClassId} {h : IH} {a k : Nat} (hk : kd h a = 20 + k) (h3 : 3 ≤ k) : ent cy h a = .inl (cy k, ln h a, .inr (.inr (.inr (.inr (rR h a))))) := by
  have h1 : ¬ kd h a < 20 := by omega
  have h2 : ¬ kd h a = 21 := by omega
  have h4 : ¬ (kd h a = 20 ∨ kd h a = 22) := by omega
  have h5 : kd h a - 20 = k := by omega
  unfold ent
  rw [if_neg h1, if_neg h2, if_neg h4, h5]
theorem flds_get {h : IH} {c a k t : Nat} (ht : (fT c)[k]? = some t) : (flds h c a)[k]? = some (fV h c a k t) := by
  unfold flds
  rw [List.getElem?_mapIdx, ht]
  rfl
theorem flds_len {h : IH} {c a k t : Nat} (ht : (fT c)[k]? = some t) : k < (flds h c a).length := by
  unfold flds
  rw [List.length_mapIdx]
  exact (List.getElem?_eq_some_iff.mp ht).1
/-- a heap that differs in one field's value alone -/
theorem flds_set {h h' : IH} {c a k t : Nat} {v : Value} (ht : (fT c)[k]? = some t) (hv : fV h' c a k t = v) (ho : ∀ k' t', k' ≠ k → fV h' c a k' t' = fV h c a k' t') : (flds h c a).set k v = flds h' c a := by
  apply List.ext_getElem?
  intro j
  rw [List.getElem?_set]
  by_cases e : k = j
  · subst e
    rw [if_pos rfl, if_pos (flds_len ht), flds_get ht, hv]
  · rw [if_neg e]
    unfold flds
    rw [List.getElem?_mapIdx, List.getElem?_mapIdx]
    cases hj : (fT c)[j]? with
    | none => rfl
    | some t' =>
      show some (fV h c a j t') = some (fV h' c a j t')
      rw [ho j t' (fun q => e q.symm)]
theorem fV_wfI {h : IH} {c a k : Nat} {v : Int32} : fV (wfI h (100 * c + k) a v) c a k 0 = .int v := by
  show Value.int (u2 (fI h) (100 * c + k) a v (100 * c + k) a) = _
  rw [u2_same]
theorem fV_wfL {h : IH} {c a k : Nat} {v : Int64} : fV (wfL h (100 * c + k) a v) c a k 1 = .long v := by
  show Value.long (u2 (fL h) (100 * c + k) a v (100 * c + k) a) = _
  rw [u2_same]
theorem fV_wfR {h : IH} {c a k : Nat} {v : Option Nat} : fV (wfR h (100 * c + k) a v) c a k 2 = va_rf v := by
  show va_rf (u2 (fR h) (100 * c + k) a v (100 * c + k) a) = _
  rw [u2_same]
theorem fV_oI {h : IH} {f c a b k t : Nat} {v : Int32} (hn : f ≠ 100 * c + k ∨ b ≠ a) : fV (wfI h f b v) c a k t = fV h c a k t := by
  unfold fV
  split
  · show Value.int (u2 (fI h) f b v (100 * c + k) a) = Value.int (fI h (100 * c + k) a)
    rcases hn with h1 | h1
    · rw [u2_ne1 (fun q => h1 q.symm)]
    · rw [u2_ne2 (fun q => h1 q.symm)]
  · rfl
  · rfl
theorem fV_oL {h : IH} {f c a b k t : Nat} {v : Int64} (hn : f ≠ 100 * c + k ∨ b ≠ a) : fV (wfL h f b v) c a k t = fV h c a k t := by
  unfold fV
  split
  · rfl
  · show Value.long (u2 (fL h) f b v (100 * c + k) a) = Value.long (fL h (100 * c + k) a)
    rcases hn with h1 | h1
    · rw [u2_ne1 (fun q => h1 q.symm)]
    · rw [u2_ne2 (fun q => h1 q.symm)]
  · rfl
theorem fV_oR {h : IH} {f c a b k t : Nat} {v : Option Nat} (hn : f ≠ 100 * c + k ∨ b ≠ a) : fV (wfR h f b v) c a k t = fV h c a k t := by
  unfold fV
  split
  · rfl
  · rfl
  · show va_rf (u2 (fR h) f b v (100 * c + k) a) = va_rf (fR h (100 * c + k) a)
    rcases hn with h1 | h1
    · rw [u2_ne1 (fun q => h1 q.symm)]
    · rw [u2_ne2 (fun q => h1 q.symm)]
theorem flds_congr {h h' : IH} {c a : Nat} (hv : ∀ k t, fV h' c a k t = fV h c a k t) : flds h' c a = flds h c a := by
  unfold flds
  congr 1
  funext k t
  exact hv k t
theorem ent_congr {cy : Nat → ClassId} {h h' : IH} {b : Nat} (hk : kd h' b = kd h b) (hf : ∀ c k t, fV h' c b k t = fV h c b k t) (hn : ln h' b = ln h b) (h1 : rI h' b = rI h b) (h2 : rL h' b = rL h b) (h3 : rR h' b = rR h b) : ent cy h' b = ent cy h b := by
  unfold ent
  rw [hk, hn, h1, h2, h3, flds_congr (hf _)]
theorem ent_wfI {cy : Nat → ClassId} {h : IH} {a c k : Nat} {v : Int32} (hk : kd h a = c + 1) (hc : c < 19) (ht : (fT c)[k]? = some 0) (b : Nat) : va_up (ent cy h) a (.inr (c, (flds h c a).set k (.int v))) b = ent cy (wfI h (100 * c + k) a v) b := by
  by_cases e : b = a
  · subst e
    rw [va_up_self, ent_o (h := wfI h (100 * c + k) b v) (c := c) hk hc, flds_set ht fV_wfI (fun k' t' hn => fV_oI (Or.inl (by omega)))]
  · rw [va_up_ne _ _ e]
    exact (ent_congr (h := h) (h' := wfI h (100 * c + k) a v) rfl (fun c' k' t' => fV_oI (Or.inr (fun q => e q.symm))) rfl rfl rfl rfl).symm
theorem ent_wfL {cy : Nat → ClassId} {h : IH} {a c k : Nat} {v : Int64} (hk : kd h a = c + 1) (hc : c < 19) (ht : (fT c)[k]? = some 1) (b : Nat) : va_up (ent cy h) a (.inr (c, (flds h c a).set k (.long v))) b = ent cy (wfL h (100 * c + k) a v) b := by
  by_cases e : b = a
  · subst e
    rw [va_up_self, ent_o (h := wfL h (100 * c + k) b v) (c := c) hk hc, flds_set ht fV_wfL (fun k' t' hn => fV_oL (Or.inl (by omega)))]
  · rw [va_up_ne _ _ e]
    exact (ent_congr (h := h) (h' := wfL h (100 * c + k) a v) rfl (fun c' k' t' => fV_oL (Or.inr (fun q => e q.symm))) rfl rfl rfl rfl).symm
theorem ent_wfR {cy : Nat → ClassId} {h : IH} {a c k : Nat} {v : Option Nat} (hk : kd h a = c + 1) (hc : c < 19) (ht : (fT c)[k]? = some 2) (b : Nat) : va_up (ent cy h) a (.inr (c, (flds h c a).set k (va_rf v))) b = ent cy (wfR h (100 * c + k) a v) b := by
  by_cases e : b = a
  · subst e
    rw [va_up_self, ent_o (h := wfR h (100 * c + k) b v) (c := c) hk hc, flds_set ht fV_wfR (fun k' t' hn => fV_oR (Or.inl (by omega)))]
  · rw [va_up_ne _ _ e]
    exact (ent_congr (h := h) (h' := wfR h (100 * c + k) a v) rfl (fun c' k' t' => fV_oR (Or.inr (fun q => e q.symm))) rfl rfl rfl rfl).symm
theorem ent_wrI {cy : Nat → ClassId} {h : IH} {a j : Nat} {v : Int32} (hk : kd h a = 20) (b : Nat) : va_up (ent cy h) a (.inl (cy 0, ln h a, .inl (upd (rI h a) j v))) b = ent cy (wrI h a j v) b := by
  by_cases e : b = a
  · subst e
    rw [va_up_self, ent_I (h := wrI h b j v) hk]
    show _ = Sum.inl (cy 0, ln h b, Sum.inl (u2 (rI h) b j v b))
    rw [u2_row]
  · rw [va_up_ne _ _ e]
    refine (ent_congr (h := h) (h' := wrI h a j v) rfl (fun c' k' t' => rfl) rfl ?_ rfl rfl).symm
    funext y
    exact u2_ne1 e
theorem ent_wrZ {cy : Nat → ClassId} {h : IH} {a j : Nat} {v : Int32} (hk : kd h a = 22) (b : Nat) : va_up (ent cy h) a (.inl (cy 2, ln h a, .inl (upd (rI h a) j v))) b = ent cy (wrI h a j v) b := by
  by_cases e : b = a
  · subst e
    rw [va_up_self, ent_Z (h := wrI h b j v) hk]
    show _ = Sum.inl (cy 2, ln h b, Sum.inl (u2 (rI h) b j v b))
    rw [u2_row]
  · rw [va_up_ne _ _ e]
    refine (ent_congr (h := h) (h' := wrI h a j v) rfl (fun c' k' t' => rfl) rfl ?_ rfl rfl).symm
    funext y
    exact u2_ne1 e
theorem ent_wrL {cy : Nat → ClassId} {h : IH} {a j : Nat} {v : Int64} (hk : kd h a = 21) (b : Nat) : va_up (ent cy h) a (.inl (cy 1, ln h a, .inr (.inl (vp_updL (rL h a) j v)))) b = ent cy (wrL h a j v) b := by
  by_cases e : b = a
  · subst e
    rw [va_up_self, ent_J (h := wrL h b j v) hk]
    show _ = Sum.inl (cy 1, ln h b, Sum.inr (Sum.inl (u2 (rL h) b j v b)))
    have hr : u2 (rL h) b j v b = vp_updL (rL h b) j v := by
      funext y
      simp [u2, vp_updL]
    rw [hr]
  · rw [va_up_ne _ _ e]
    refine (ent_congr (h := h) (h' := wrL h a j v) rfl (fun c' k' t' => rfl) rfl rfl ?_ rfl).symm
    funext y
    exact u2_ne1 e
theorem ent_wrR {cy : Nat → ClassId} {h : IH} {a j k : Nat} {v : Option Nat} (hk : kd h a = 20 + k) (h3 : 3 ≤ k) (b : Nat) : va_up (ent cy h) a (.inl (cy k, ln h a, .inr (.inr (.inr (.inr (va_up (rR h a) j v)))))) b = ent cy (wrR h a j v) b := by
  by_cases e : b = a
  · subst e
    rw [va_up_self, ent_R (h := wrR h b j v) hk h3]
    show _ = Sum.inl (cy k, ln h b, Sum.inr (Sum.inr (Sum.inr (Sum.inr (u2 (rR h) b j v b)))))
    have hr : u2 (rR h) b j v b = va_up (rR h b) j v := by
      funext y
      simp [u2, va_up]
    rw [hr]
  · rw [va_up_ne _ _ e]
    refine (ent_congr (h := h) (h' := wrR h a j v) rfl (fun c' k' t' => rfl) rfl rfl rfl ?_).symm
    funext y
    exact u2_ne1 e
