/-! ===== the value of a rule ===== -/
def lfV (D : Dt) (bd : Int32) (s t : Nat) (ds : Nat) (c : Int32) : Int32 := if c = -5 then nI ds else if c = -4 then dZ D s else if c = -3 then dZ D t else if c = -2 then dK D t else if c = -1 then bd else c
def biV (c : Int32) (a b : Option Int32) : Option Int32 := match a, b with
  | some x, some y => if c = -8 then some (x * y) else if c = -7 then some (x - y) else if c = -6 then some (x + y) else if y = 0 then none else some (x / y)
  | _, _ => none
def chV (a b d : Option Int32) : Option Int32 := match a with
  | none => none
  | some x => if 0 < x then b else d
/-- one word more in front of values -/
def stV_ (lf : Int32 → Int32) (c : Int32) (st : List (Option Int32)) : List (Option Int32) := if arC c = 0 then some (lf c) :: st else if arC c = 3 then (match st with
  | a :: b :: d :: r => chV a b d :: r
  | _ => []) else (match st with
  | a :: b :: r => biV c a b :: r
  | _ => [])
def evN (lf : Int32 → Int32) (co : Nat → Int32) : Nat → Nat → List (Option Int32)
  | 0, _ => []
  | r + 1, i => stV_ lf (co i) (evN lf co r (i + 1))
/-- how many values are wanted in front of word i -/
def nd (co : Nat → Int32) : Nat → Nat
  | 0 => 1
  | i + 1 => nd co i - 1 + arC (co i)
def RulOk (R : Nat) (co : Nat → Int32) : Prop := 1 ≤ R ∧ R ≤ 30 ∧ (∀ i, i < R → 1 ≤ nd co i ∧ in_ (co i) (-10) 9999) ∧ nd co R = 0
def WgR (D : Dt) : Prop := RulOk (dR D) (dco D)
theorem nd_le (co : Nat → Int32) : ∀ i, nd co i ≤ 1 + 2 * i := by
  intro i
  induction i with
  | zero => exact Nat.le_refl _
  | succ i ih =>
    unfold nd
    have := arC_le (co i)
    omega
/-- from word i on there stand as many values as are wanted -/
theorem ev_len {lf : Int32 → Int32} {R : Nat} {co : Nat → Int32} (o : RulOk R co) : ∀ r i, i + r = R → (evN lf co r i).length = nd co i := by
  intro r
  induction r with
  | zero =>
    intro i hi
    have : i = R := by omega
    subst this
    rw [o.2.2.2]
    rfl
  | succ r ih =>
    intro i hi
    have h1 := (o.2.2.1 i (by omega)).1
    have e := ih (i + 1) (by omega)
    have e2 : nd co (i + 1) = nd co i - 1 + arC (co i) := rfl
    unfold evN stV_
    by_cases c0 : arC (co i) = 0
    · rw [if_pos c0, List.length_cons]
      omega
    · rw [if_neg c0]
      have hl := arC_le (co i)
      have h2 := arC_2 (Nat.pos_of_ne_zero c0)
      by_cases c3 : arC (co i) = 3
      · rw [if_pos c3]
        match hq : evN lf co r (i + 1) with
        | [] => rw [hq] at e; simp at e; omega
        | [_] => rw [hq] at e; simp at e; omega
        | [_, _] => rw [hq] at e; simp at e; omega
        | a :: b :: d :: l =>
          rw [hq] at e
          simp at e ⊢
          omega
      · rw [if_neg c3]
        match hq : evN lf co r (i + 1) with
        | [] => rw [hq] at e; simp at e; omega
        | [_] => rw [hq] at e; simp at e; omega
        | a :: b :: l =>
          rw [hq] at e
          simp at e ⊢
          omega
/-! a rule that was read is well formed -/
def sumF (f : Nat → Nat) : Nat → Nat
  | 0 => f 0
  | d + 1 => sumF f d + f (d + 1)
theorem sumF_up {f : Nat → Nat} {k v : Nat} : ∀ d, d < k → sumF (upN f k v) d = sumF f d := by
  intro d
  induction d with
  | zero =>
    intro h
    show upN f k v 0 = f 0
    unfold upN
    rw [if_neg (by omega)]
  | succ d ih =>
    intro h
    show sumF (upN f k v) d + upN f k v (d + 1) = sumF f d + f (d + 1)
    rw [ih (by omega)]
    unfold upN
    rw [if_neg (by omega)]
theorem sumF_ge {f : Nat → Nat} : ∀ d, (∀ i, i ≤ d → 1 ≤ f i) → d + 1 ≤ sumF f d := by
  intro d
  induction d with
  | zero => intro h; exact h 0 (Nat.le_refl _)
  | succ d ih =>
    intro h
    have := ih (fun i hi => h i (by omega))
    have := h (d + 1) (Nat.le_refl _)
    show d + 1 + 1 ≤ sumF f d + f (d + 1)
    omega
theorem eO_sum : ∀ d f, (∀ i, i ≤ d → 1 ≤ f i) → sumF (eO d f).2 (eO d f).1 + d = sumF f d - 1 + (eO d f).1 := by
  intro d
  induction d with
  | zero =>
    intro f h
    show upN f 0 (f 0 - 1) 0 + 0 = f 0 - 1 + 0
    unfold upN
    rw [if_pos rfl]
  | succ d ih =>
    intro f h
    have h1 := h (d + 1) (Nat.le_refl _)
    have hs := sumF_ge d (fun i hi => h i (by omega))
    unfold eO
    have e : sumF f (d + 1) = sumF f d + f (d + 1) := rfl
    by_cases c : f (d + 1) - 1 = 0
    · rw [if_pos c]
      have := ih (upN f (d + 1) 0) (fun i hi => by
        unfold upN
        rw [if_neg (by omega)]
        exact h i (by omega))
      rw [sumF_up d (by omega)] at this
      omega
    · rw [if_neg c]
      show sumF (upN f (d + 1) (f (d + 1) - 1)) d + upN f (d + 1) (f (d + 1) - 1) (d + 1) + (d + 1) = sumF f (d + 1) - 1 + (d + 1)
      rw [sumF_up d (by omega)]
      unfold upN
      rw [if_pos rfl]
      omega
theorem nd_app {pre : List Int32} {c : Int32} : ∀ i, i ≤ pre.length → ∀ l l' : List Int32, nd (fun j => (pre ++ l).getD j 0) i = nd (fun j => (pre ++ l').getD j 0) i := by
  intro i
  induction i with
  | zero => intro _ _ _; rfl
  | succ i ih =>
    intro hi l l'
    unfold nd
    rw [ih (by omega) l l']
    have e : ∀ l : List Int32, (pre ++ l).getD i 0 = pre.getD i 0 := fun l => by
      rw [List.getD_eq_getElem?_getD, List.getD_eq_getElem?_getD, List.getElem?_append_left (by omega)]
    rw [e, e]
theorem cCode_rng {b : Nat → Int32} {s e : Nat} (h : cCode b s e ≠ -11) : in_ (cCode b s e) (-10) 9999 := by
  rcases wc b s e with q | q
  · exact absurd q.1 h
  · exact ⟨q.2.1, q.2.2.1⟩
theorem prs_ok {b : Nat → Int32} {T : Nat} : ∀ r c d f k (pre l : List Int32), pre.length = k → SOk d f → prs b T r c d f k = .inr l → k ≤ 30 → nd (fun j => pre.getD j 0) k + d = sumF f d → (∀ i, i < k → 1 ≤ nd (fun j => pre.getD j 0) i ∧ in_ (pre.getD i 0) (-10) 9999) → k + l.length ≤ 30 ∧ (∀ i, i < k + l.length → 1 ≤ nd (fun j => (pre ++ l).getD j 0) i ∧ in_ ((pre ++ l).getD i 0) (-10) 9999) ∧ nd (fun j => (pre ++ l).getD j 0) (k + l.length) = 0 := by
  intro r
  induction r with
  | zero => intro c d f k pre l _ _ h; cases h
  | succ r ih =>
    intro c d f k pre l hp o h hk hn hi
    unfold prs at h
    by_cases cz : d = 0 ∧ f 0 = 0
    · rw [if_pos cz] at h
      split at h
      · cases h
      · cases h
        have e0 : sumF f d = 0 := by rw [cz.1]; exact cz.2
        rw [List.append_nil]
        simp only [List.length_nil, Nat.add_zero]
        exact ⟨hk, hi, by omega⟩
    · rw [if_neg cz] at h
      split at h
      · cases h
      · rename_i q
        have hc : cCode b (nxS b T c) (nxE b T c) ≠ -11 := fun z => q (Or.inl z)
        have h30 : k ≠ 30 := fun z => q (Or.inr (Or.inl z))
        have h8 : ¬ (0 < arC (cCode b (nxS b T c) (nxE b T c)) ∧ d = 8) := fun z => q (Or.inr (Or.inr z))
        cases hq : prs b T r (nxE b T c) (stS d f (cCode b (nxS b T c) (nxE b T c))).1 (stS d f (cCode b (nxS b T c) (nxE b T c))).2 (k + 1) with
        | inl p =>
          rw [hq] at h
          cases h
        | inr l' =>
          rw [hq] at h
          cases h
          have hf := o.2.resolve_left cz
          have hs := sumF_ge d (fun i hi => (hf i hi).1)
          have gl : ∀ i, i < k → (pre ++ [cCode b (nxS b T c) (nxE b T c)]).getD i 0 = pre.getD i 0 := fun i hi => by
            rw [List.getD_eq_getElem?_getD, List.getD_eq_getElem?_getD, List.getElem?_append_left (by omega)]
          have gk : (pre ++ [cCode b (nxS b T c) (nxE b T c)]).getD k 0 = cCode b (nxS b T c) (nxE b T c) := by
            rw [← hp]
            simp [List.getD_eq_getElem?_getD]
          have en : ∀ i, i ≤ k → nd (fun j => (pre ++ [cCode b (nxS b T c) (nxE b T c)]).getD j 0) i = nd (fun j => pre.getD j 0) i := fun i hi => by
            have := nd_app (c := 0) (pre := pre) i (by omega) [cCode b (nxS b T c) (nxE b T c)] []
            rw [List.append_nil] at this
            exact this
          have key := ih (nxE b T c) _ _ (k + 1) (pre ++ [cCode b (nxS b T c) (nxE b T c)]) l' (by rw [List.length_append, hp]; rfl) (stS_ok _ o cz h8) hq (by omega) (by
            show nd (fun j => (pre ++ [cCode b (nxS b T c) (nxE b T c)]).getD j 0) k - 1 + arC ((pre ++ [cCode b (nxS b T c) (nxE b T c)]).getD k 0) + _ = _
            rw [en k (Nat.le_refl _), gk]
            unfold stS
            by_cases c3 : 0 < arC (cCode b (nxS b T c) (nxE b T c))
            · rw [if_pos c3]
              show _ + (d + 1) = sumF (upN f (d + 1) _) d + upN f (d + 1) _ (d + 1)
              rw [sumF_up d (by omega)]
              unfold upN
              rw [if_pos rfl]
              omega
            · rw [if_neg c3]
              have := eO_sum d f (fun i hi => (hf i hi).1)
              omega) (fun i hi' => by
            by_cases e : i = k
            · subst e
              rw [en i (Nat.le_refl _), gk]
              exact ⟨by omega, cCode_rng hc⟩
            · rw [en i (by omega), gl i (by omega)]
              exact hi i (by omega))
          have ea : pre ++ [cCode b (nxS b T c) (nxE b T c)] ++ l' = pre ++ cCode b (nxS b T c) (nxE b T c) :: l' := by simp
          have el : k + 1 + l'.length = k + (cCode b (nxS b T c) (nxE b T c) :: l').length := by rw [List.length_cons]; omega
          rw [ea, el] at key
          exact key
theorem ruleW {D : Dt} (w : WgR D) : WgR (ruleD D) := by
  unfold ruleD
  cases hp : rule0 D with
  | inl p => exact w
  | inr l =>
    have := prs_ok 32 0 0 (fun _ => 1) 0 [] l rfl ⟨by omega, Or.inr (fun i _ => ⟨Nat.le_refl 1, show 1 ≤ 3 by decide⟩)⟩ hp (by omega) rfl (fun i hi => absurd hi (by omega))
    rw [Nat.zero_add, List.nil_append] at this
    obtain ⟨h1, h2, h3⟩ := this
    have h0 : 1 ≤ l.length := by
      by_cases z : l.length = 0
      · rw [z] at h3
        have h3 : (1 : Nat) = 0 := h3
        omega
      · omega
    exact ⟨h0, h1, h2, h3⟩
