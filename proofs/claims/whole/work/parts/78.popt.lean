/-! ===== best pairings: sums, matchings, the greatest worth ===== -/
def sm (f : Nat → Nat) : Nat → Nat
  | 0 => 0
  | n + 1 => sm f n + f n
theorem sm_congr {f g : Nat → Nat} : ∀ n, (∀ i, i < n → f i = g i) → sm f n = sm g n := by
  intro n
  induction n with
  | zero => intro _; rfl
  | succ n ih =>
    intro h
    show sm f n + f n = sm g n + g n
    rw [ih (fun i hi => h i (by omega)), h n (by omega)]
theorem sm_le {f g : Nat → Nat} : ∀ n, (∀ i, i < n → f i ≤ g i) → sm f n ≤ sm g n := by
  intro n
  induction n with
  | zero => intro _; exact Nat.le_refl _
  | succ n ih =>
    intro h
    have h1 := ih (fun i hi => h i (by omega))
    have h2 := h n (by omega)
    show sm f n + f n ≤ sm g n + g n
    omega
theorem sm_add (f g : Nat → Nat) : ∀ n, sm (fun i => f i + g i) n = sm f n + sm g n := by
  intro n
  induction n with
  | zero => rfl
  | succ n ih =>
    show sm (fun i => f i + g i) n + (f n + g n) = sm f n + f n + (sm g n + g n)
    rw [ih]
    omega
theorem sm_0 : ∀ n, sm (fun _ => 0) n = 0 := by
  intro n
  induction n with
  | zero => rfl
  | succ n ih => show sm (fun _ => 0) n + 0 = 0; rw [ih]
theorem sm_bd {f : Nat → Nat} {k : Nat} : ∀ n, (∀ i, i < n → f i ≤ k) → sm f n ≤ n * k := by
  intro n
  induction n with
  | zero => intro _; exact Nat.zero_le _
  | succ n ih =>
    intro h
    have h1 := ih (fun i hi => h i (by omega))
    have h2 := h n (by omega)
    show sm f n + f n ≤ (n + 1) * k
    rw [Nat.succ_mul]
    omega
/-- one place changed -/
theorem sm_upd {f g : Nat → Nat} {k : Nat} (h : ∀ i, i ≠ k → f i = g i) : ∀ n, k < n → sm f n + g k = sm g n + f k := by
  intro n
  induction n with
  | zero => intro hk; omega
  | succ n ih =>
    intro hk
    show sm f n + f n + g k = sm g n + g n + f k
    by_cases c : k = n
    · subst c
      rw [sm_congr k (fun i hi => h i (by omega))]
      omega
    · have := ih (by omega)
      rw [h n (fun z => c z.symm)]
      omega
theorem sm_one {f : Nat → Nat} {k : Nat} (h : ∀ i, i ≠ k → f i = 0) {n : Nat} (hk : k < n) : sm f n = f k := by
  have := sm_upd (f := f) (g := fun _ => 0) (k := k) h n hk
  rw [sm_0] at this
  omega
theorem sm_ge {f : Nat → Nat} {k n : Nat} (hk : k < n) : f k ≤ sm f n := by
  have h1 := sm_one (f := fun i => if i = k then f i else 0) (k := k) (fun i hi => if_neg hi) hk
  have h2 : sm (fun i => if i = k then f i else 0) n ≤ sm f n := sm_le n (fun i _ => by
    show (if i = k then f i else 0) ≤ f i
    split <;> omega)
  rw [if_pos rfl] at h1
  omega
theorem sm_swap (f : Nat → Nat → Nat) (m : Nat) : ∀ n, sm (fun i => sm (fun j => f i j) m) n = sm (fun j => sm (fun i => f i j) n) m := by
  intro n
  induction n with
  | zero => show 0 = sm (fun _ => 0) m; rw [sm_0]
  | succ n ih =>
    show sm (fun i => sm (fun j => f i j) m) n + sm (fun j => f n j) m = sm (fun j => sm (fun i => f i j) n + f n j) m
    rw [ih, ← sm_add]
/-- a sum along an injection that reaches all that counts -/
theorem sm_inj {f : Nat → Nat} {ρ : Nat → Nat} {R n : Nat} (h1 : ∀ i, i < R → ρ i < n) (h2 : ∀ i j, i < R → j < R → ρ i = ρ j → i = j) (h3 : ∀ l, l < n → f l ≠ 0 → ∃ i, i < R ∧ ρ i = l) : sm (fun i => f (ρ i)) R = sm f n := by
  have e : sm (fun i => sm (fun l => if ρ i = l then f l else 0) n) R = sm (fun i => f (ρ i)) R := by
    apply sm_congr
    intro i hi
    rw [sm_one (k := ρ i) (fun l hl => if_neg (fun z => hl z.symm)) (h1 i hi), if_pos rfl]
  rw [← e, sm_swap]
  apply sm_congr
  intro l hl
  show sm (fun i => if ρ i = l then f l else 0) R = f l
  by_cases c : f l = 0
  · rw [sm_congr (g := fun _ => 0) R (fun i _ => by rw [c]; split <;> rfl), sm_0, c]
  · obtain ⟨i, hi, e⟩ := h3 l hl c
    by_cases hR : True
    · rw [← sm_congr (f := fun i' => if i' = i then f l else 0) R (fun i' hi' => by
        by_cases d : i' = i
        · rw [if_pos d, if_pos (by rw [d]; exact e)]
        · rw [if_neg d, if_neg (fun z => d (h2 i' i hi' hi (z.trans e.symm)))])]
      rw [sm_one (k := i) (fun j hj => if_neg hj) hi, if_pos rfl]
    · exact absurd trivial hR
/-! matchings: each row has at most one column; w i j = 0 says that i and j may not be paired -/
def wtO (w : Nat → Nat → Nat) (i : Nat) (o : Option Nat) : Nat := match o with
  | none => 0
  | some j => w i j
def wtM (w : Nat → Nat → Nat) (M : Nat → Option Nat) (n : Nat) : Nat := sm (fun i => wtO w i (M i)) n
def IsMt (w : Nat → Nat → Nat) (n c : Nat) (P Q : Nat → Bool) (M : Nat → Option Nat) : Prop := (∀ i j, M i = some j → i < n ∧ j < c ∧ P i = true ∧ Q j = true ∧ 0 < w i j) ∧ ∀ i i' j, M i = some j → M i' = some j → i = i'
/-- v is the greatest worth of a matching -/
def IsMx (w : Nat → Nat → Nat) (n c : Nat) (P Q : Nat → Bool) (v : Nat) : Prop := (∃ M, IsMt w n c P Q M ∧ wtM w M n = v) ∧ ∀ M, IsMt w n c P Q M → wtM w M n ≤ v
theorem IsMx.uniq {w : Nat → Nat → Nat} {n c : Nat} {P Q : Nat → Bool} {v v' : Nat} (x : IsMx w n c P Q v) (y : IsMx w n c P Q v') : v = v' := by
  obtain ⟨⟨M, m1, m2⟩, x2⟩ := x
  obtain ⟨⟨M', m1', m2'⟩, y2⟩ := y
  have := x2 M' m1'
  have := y2 M m1
  omega
/-- prices bound the worth -/
theorem price_ub {w : Nat → Nat → Nat} {n c : Nat} {P Q : Nat → Bool} {y β : Nat → Nat} (h : ∀ i j, i < n → j < c → P i = true → Q j = true → 0 < w i j → w i j ≤ y i + β j) (M : Nat → Option Nat) (hM : IsMt w n c P Q M) : wtM w M n ≤ sm y n + sm β c := by
  have e1 : wtM w M n ≤ sm (fun i => y i + sm (fun j => if M i = some j then β j else 0) c) n := by
    apply sm_le
    intro i hi
    cases hm : M i with
    | none => exact Nat.zero_le _
    | some j =>
      obtain ⟨_, h2, h3, h4, h5⟩ := hM.1 i j hm
      have a := h i j hi h2 h3 h4 h5
      have b : sm (fun j' => if some j = some j' then β j' else 0) c = β j := by
        rw [sm_one (k := j) (fun j' hj' => if_neg (fun z => hj' (by cases z; rfl))) h2, if_pos rfl]
      show w i j ≤ y i + sm (fun j' => if some j = some j' then β j' else 0) c
      rw [b]
      exact a
  have e2 : sm (fun i => y i + sm (fun j => if M i = some j then β j else 0) c) n = sm y n + sm (fun i => sm (fun j => if M i = some j then β j else 0) c) n := sm_add _ _ n
  have e3 : sm (fun i => sm (fun j => if M i = some j then β j else 0) c) n ≤ sm β c := by
    rw [sm_swap]
    apply sm_le
    intro j _
    show sm (fun i => if M i = some j then β j else 0) n ≤ β j
    by_cases q : ∃ i, i < n ∧ M i = some j
    · obtain ⟨i, hi, e⟩ := q
      rw [sm_one (k := i) (fun i' hi' => if_neg (fun z => hi' (hM.2 i' i j z e))) hi, if_pos e]
      exact Nat.le_refl _
    · rw [sm_congr (g := fun _ => 0) n (fun i hi => if_neg (fun z => q ⟨i, hi, z⟩)), sm_0]
      exact Nat.zero_le _
  omega
/-- and are met where every price is met -/
theorem price_eq {w : Nat → Nat → Nat} {n c : Nat} {P Q : Nat → Bool} {y β : Nat → Nat} (M : Nat → Option Nat) (hM : IsMt w n c P Q M) (h1 : ∀ i j, i < n → M i = some j → w i j = y i + β j) (h2 : ∀ i, i < n → M i = none → y i = 0) (h3 : ∀ j, j < c → (∀ i, i < n → M i ≠ some j) → β j = 0) : wtM w M n = sm y n + sm β c := by
  have e1 : wtM w M n = sm (fun i => y i + sm (fun j => if M i = some j then β j else 0) c) n := by
    apply sm_congr
    intro i hi
    cases hm : M i with
    | none =>
      rw [h2 i hi hm]
      show 0 = 0 + sm (fun j => if none = some j then β j else 0) c
      rw [sm_congr (g := fun _ => 0) c (fun j _ => if_neg (fun z => by cases z)), sm_0]
    | some j =>
      obtain ⟨_, q2, _⟩ := hM.1 i j hm
      have b : sm (fun j' => if some j = some j' then β j' else 0) c = β j := by
        rw [sm_one (k := j) (fun j' hj' => if_neg (fun z => hj' (by cases z; rfl))) q2, if_pos rfl]
      show w i j = y i + sm (fun j' => if some j = some j' then β j' else 0) c
      rw [b]
      exact h1 i j hi hm
  have e3 : sm (fun i => sm (fun j => if M i = some j then β j else 0) c) n = sm β c := by
    rw [sm_swap]
    apply sm_congr
    intro j hj
    show sm (fun i => if M i = some j then β j else 0) n = β j
    by_cases q : ∃ i, i < n ∧ M i = some j
    · obtain ⟨i, hi, e⟩ := q
      rw [sm_one (k := i) (fun i' hi' => if_neg (fun z => hi' (hM.2 i' i j z e))) hi, if_pos e]
    · rw [sm_congr (g := fun _ => 0) n (fun i hi => if_neg (fun z => q ⟨i, hi, z⟩)), sm_0, h3 j hj (fun i hi z => q ⟨i, hi, z⟩)]
  rw [e1, sm_add, e3]
/-! the same worth in other names -/
theorem IsMx.map {w : Nat → Nat → Nat} {w' : Nat → Nat → Nat} {n c n' c' : Nat} {P Q P' Q' : Nat → Bool} {ρ κ : Nat → Nat} {v : Nat} (x : IsMx w' n' c' P' Q' v) (r1 : ∀ i, i < n' → ρ i < n) (r2 : ∀ i i', i < n' → i' < n' → ρ i = ρ i' → i = i') (k1 : ∀ j, j < c' → κ j < c) (k2 : ∀ j j', j < c' → j' < c' → κ j = κ j' → j = j') (hw : ∀ i j, i < n' → j < c' → w' i j = w (ρ i) (κ j)) (hP : ∀ i, i < n' → P' i = P (ρ i)) (hQ : ∀ j, j < c' → Q' j = Q (κ j)) (full : ∀ i j, i < n → j < c → P i = true → Q j = true → 0 < w i j → (∃ i', i' < n' ∧ ρ i' = i) ∧ ∃ j', j' < c' ∧ κ j' = j) : IsMx w n c P Q v := by
  -- the way back from a name
  have inv : ∀ (k : Nat) (τ : Nat → Nat), (∀ i i', i < k → i' < k → τ i = τ i' → i = i') → ∃ σ : Nat → Option Nat, (∀ i, i < k → σ (τ i) = some i) ∧ (∀ l i, σ l = some i → i < k ∧ τ i = l) := by
    intro k τ ht
    refine ⟨fun l => (lst (fun i => decide (τ i = l)) k 0), fun i hi => ?_, fun l i h => ?_⟩
    · show lst (fun i' => decide (τ i' = τ i)) k 0 = some i
      cases h : lst (fun i' => decide (τ i' = τ i)) k 0 with
      | none =>
        have := lst_none _ _ h i (by omega) (by omega)
        exact absurd rfl (of_decide_eq_false this)
      | some i' =>
        have := lst_some _ _ _ h
        rw [ht i' i (by omega) hi (of_decide_eq_true this.2.2)]
    · have := lst_some _ _ _ h
      exact ⟨by omega, of_decide_eq_true this.2.2⟩
  obtain ⟨σ, s1, s2⟩ := inv n' ρ r2
  obtain ⟨θ, t1, t2⟩ := inv c' κ k2
  obtain ⟨⟨M, m1, m2⟩, x2⟩ := x
  constructor
  · refine ⟨fun l => (σ l).bind (fun i => (M i).map κ), ⟨fun l j h => ?_, fun l l' j h h' => ?_⟩, ?_⟩
    · have h : (σ l).bind (fun i => (M i).map κ) = some j := h
      cases hs : σ l with
      | none => rw [hs] at h; cases h
      | some i =>
        rw [hs] at h
        obtain ⟨hi, hl⟩ := s2 l i hs
        cases hm : M i with
        | none => rw [Option.bind_some, hm] at h; cases h
        | some j' =>
          rw [Option.bind_some, hm] at h
          cases h
          obtain ⟨q1, q2, q3, q4, q5⟩ := m1.1 i j' hm
          rw [← hl]
          exact ⟨r1 i hi, k1 j' q2, by rw [← hP i hi]; exact q3, by rw [← hQ j' q2]; exact q4, by rw [← hw i j' hi q2]; exact q5⟩
    · have h : (σ l).bind (fun i => (M i).map κ) = some j := h
      have h' : (σ l').bind (fun i => (M i).map κ) = some j := h'
      cases hs : σ l with
      | none => rw [hs] at h; cases h
      | some i =>
        cases hs' : σ l' with
        | none => rw [hs'] at h'; cases h'
        | some i' =>
          rw [hs] at h
          rw [hs'] at h'
          obtain ⟨hi, hl⟩ := s2 l i hs
          obtain ⟨hi', hl'⟩ := s2 l' i' hs'
          cases hm : M i with
          | none => rw [Option.bind_some, hm] at h; cases h
          | some a =>
            cases hm' : M i' with
            | none => rw [Option.bind_some, hm'] at h'; cases h'
            | some a' =>
              rw [Option.bind_some, hm] at h
              rw [Option.bind_some, hm'] at h'
              have h : κ a = j := Option.some.inj h
              have h' : κ a' = j := Option.some.inj h'
              have ha := (m1.1 i a hm).2.1
              have ha' := (m1.1 i' a' hm').2.1
              have e := k2 a a' ha ha' (h.trans h'.symm)
              rw [← e] at hm'
              rw [← hl, ← hl', m1.2 i i' a hm hm']
    · rw [← m2]
      unfold wtM
      rw [← sm_inj (f := fun l => wtO w l ((σ l).bind (fun i => (M i).map κ))) (ρ := ρ) (R := n') r1 r2 (fun l hl h => ?_)]
      · apply sm_congr
        intro i hi
        show wtO w (ρ i) ((σ (ρ i)).bind (fun i => (M i).map κ)) = wtO w' i (M i)
        rw [s1 i hi, Option.bind_some]
        cases hm : M i with
        | none => rfl
        | some j =>
          show w (ρ i) (κ j) = w' i j
          rw [hw i j hi (m1.1 i j hm).2.1]
      · cases hs : σ l with
        | none =>
          have h : wtO w l ((σ l).bind (fun i => (M i).map κ)) ≠ 0 := h
          rw [hs] at h
          exact absurd rfl h
        | some i => exact ⟨i, s2 l i hs⟩
  · intro L hL
    have b : wtM w' (fun i => if i < n' then (L (ρ i)).bind θ else none) n' ≤ v := by
      refine x2 _ ⟨fun i j h => ?_, fun i i' j h h' => ?_⟩
      · have h : (if i < n' then (L (ρ i)).bind θ else none) = some j := h
        by_cases hi : i < n'
        · rw [if_pos hi] at h
          cases hl : L (ρ i) with
          | none => rw [hl] at h; cases h
          | some a =>
            rw [hl] at h
            have h : θ a = some j := h
            obtain ⟨q1, q2⟩ := t2 a j h
            obtain ⟨p1, p2, p3, p4, p5⟩ := hL.1 (ρ i) a hl
            rw [← q2] at p4 p5
            exact ⟨hi, q1, by rw [hP i hi]; exact p3, by rw [hQ j q1]; exact p4, by rw [hw i j hi q1]; exact p5⟩
        · rw [if_neg hi] at h
          cases h
      · have h : (if i < n' then (L (ρ i)).bind θ else none) = some j := h
        have h' : (if i' < n' then (L (ρ i')).bind θ else none) = some j := h'
        by_cases hi : i < n'
        · by_cases hi' : i' < n'
          · rw [if_pos hi] at h
            rw [if_pos hi'] at h'
            cases hl : L (ρ i) with
            | none => rw [hl] at h; cases h
            | some a =>
              cases hl' : L (ρ i') with
              | none => rw [hl'] at h'; cases h'
              | some a' =>
                rw [hl] at h
                rw [hl'] at h'
                have e1 := (t2 a j h).2
                have e2 := (t2 a' j h').2
                have : a = a' := e1.symm.trans e2
                rw [← this] at hl'
                exact r2 i i' hi hi' (hL.2 _ _ a hl hl')
          · rw [if_neg hi'] at h'
            cases h'
        · rw [if_neg hi] at h
          cases h
    have e : wtM w L n = wtM w' (fun i => if i < n' then (L (ρ i)).bind θ else none) n' := by
      unfold wtM
      rw [← sm_inj (f := fun l => wtO w l (L l)) (ρ := ρ) (R := n') r1 r2 (fun l hl h => ?_)]
      · apply sm_congr
        intro i hi
        show wtO w (ρ i) (L (ρ i)) = wtO w' i (if i < n' then (L (ρ i)).bind θ else none)
        rw [if_pos hi]
        cases hl : L (ρ i) with
        | none => rfl
        | some a =>
          obtain ⟨p1, p2, p3, p4, p5⟩ := hL.1 (ρ i) a hl
          obtain ⟨_, j, hj, ej⟩ := full (ρ i) a p1 p2 p3 p4 p5
          rw [Option.bind_some, ← ej, t1 j hj]
          show w (ρ i) (κ j) = w' i j
          rw [hw i j hi hj]
      · cases hL2 : L l with
        | none =>
          have h : wtO w l (L l) ≠ 0 := h
          rw [hL2] at h
          exact absurd rfl h
        | some a =>
          obtain ⟨p1, p2, p3, p4, p5⟩ := hL.1 l a hL2
          exact (full l a p1 p2 p3 p4 p5).1
    rw [e]
    exact b
