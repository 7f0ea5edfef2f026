/-! ===== the pairs: one after another, each line with the first that lets the rest come to what is wanted ===== -/
noncomputable def opt (w : Nat → Nat → Nat) (l : Nat) (Q : Nat → Bool) : Nat := Classical.epsilon (fun v => IsMx w 16 16 (fun i => decide (l ≤ i)) Q v)
theorem opt_eq {w : Nat → Nat → Nat} {l : Nat} {Q : Nat → Bool} {v : Nat} (x : IsMx w 16 16 (fun i => decide (l ≤ i)) Q v) : opt w l Q = v := (Classical.epsilon_spec (p := fun v => IsMx w 16 16 (fun i => decide (l ≤ i)) Q v) ⟨v, x⟩).uniq x
def woQ (Q : Nat → Bool) (j : Nat) : Nat → Bool := fun k => decide (k ≠ j) && Q k
theorem woQ_same (Q : Nat → Bool) (j : Nat) : woQ Q j j = false := by unfold woQ; rw [decide_eq_false (fun z => z rfl)]; rfl
theorem woQ_ne (Q : Nat → Bool) {j k : Nat} (h : k ≠ j) : woQ Q j k = Q k := by unfold woQ; rw [decide_eq_true h]; rfl
noncomputable def gdB (w : Nat → Nat → Nat) (l : Nat) (Q : Nat → Bool) (v j : Nat) : Bool := Q j && (decide (0 < w l j) && decide (w l j + opt w (l + 1) (woQ Q j) = v))
theorem gdB_iff {w : Nat → Nat → Nat} {l : Nat} {Q : Nat → Bool} {v j : Nat} : gdB w l Q v j = true ↔ Q j = true ∧ 0 < w l j ∧ w l j + opt w (l + 1) (woQ Q j) = v := by
  unfold gdB
  rw [Bool.and_eq_true, Bool.and_eq_true, decide_eq_true_iff, decide_eq_true_iff]
/-- the first of n -/
def fsM (p : Nat → Bool) : Nat → Option Nat
  | 0 => none
  | n + 1 => match fsM p n with
    | some k => some k
    | none => if p n = true then some n else none
theorem fsM_none {p : Nat → Bool} : ∀ {n : Nat}, fsM p n = none ↔ ∀ k, k < n → p k = false := by
  intro n
  induction n with
  | zero => exact ⟨fun _ k hk => absurd hk (by omega), fun _ => rfl⟩
  | succ n ih =>
    show (match fsM p n with | some k => some k | none => if p n = true then some n else none) = none ↔ _
    cases h : fsM p n with
    | some k =>
      refine ⟨fun z => (by cases z), fun z => ?_⟩
      rw [ih.mpr (fun i hi => z i (by omega))] at h
      cases h
    | none =>
      have q := ih.mp h
      cases hp : p n with
      | false =>
        refine ⟨fun _ i hi => ?_, fun _ => if_neg (by decide)⟩
        by_cases c : i = n
        · rw [c]; exact hp
        · exact q i (by omega)
      | true =>
        refine ⟨fun z => ?_, fun z => ?_⟩
        · have z : (if (true : Bool) = true then some n else none) = none := z
          rw [if_pos rfl] at z
          cases z
        · have := z n (by omega)
          rw [hp] at this
          cases this
theorem fsM_some {p : Nat → Bool} : ∀ {n m : Nat}, fsM p n = some m ↔ m < n ∧ p m = true ∧ ∀ k, k < m → p k = false := by
  intro n
  induction n with
  | zero => exact fun {m} => ⟨fun z => (by cases z), fun z => absurd z.1 (by omega)⟩
  | succ n ih =>
    intro m
    show (match fsM p n with | some k => some k | none => if p n = true then some n else none) = some m ↔ _
    cases h : fsM p n with
    | some k =>
      have q := ih.mp h
      refine ⟨fun z => ?_, fun z => ?_⟩
      · cases z
        exact ⟨by omega, q.2⟩
      · by_cases c : m < n
        · have := ih.mpr ⟨c, z.2⟩
          rw [this] at h
          cases h
          rfl
        · have := z.2.2 k (by omega)
          rw [q.2.1] at this
          cases this
    | none =>
      have q := fsM_none.mp h
      show (if p n = true then some n else none) = some m ↔ _
      by_cases hp : p n = true
      · rw [if_pos hp]
        refine ⟨fun z => ?_, fun z => ?_⟩
        · cases z
          exact ⟨by omega, hp, q⟩
        · by_cases c : m = n
          · rw [c]
          · have := q m (by omega)
            rw [z.2.1] at this
            cases this
      · rw [if_neg hp]
        refine ⟨fun z => (by cases z), fun z => ?_⟩
        by_cases c : m = n
        · rw [c] at z; exact absurd z.2.1 hp
        · have := q m (by omega)
          rw [z.2.1] at this
          cases this
theorem fsM_congr {p p' : Nat → Bool} {n : Nat} (h : ∀ k, k < n → p k = p' k) : fsM p n = fsM p' n := by
  cases e : fsM p' n with
  | none =>
    rw [fsM_none] at e ⊢
    intro k hk
    rw [h k hk]
    exact e k hk
  | some m =>
    rw [fsM_some] at e ⊢
    refine ⟨e.1, by rw [h m e.1]; exact e.2.1, fun k hk => ?_⟩
    rw [h k (by omega)]
    exact e.2.2 k hk
def upO (M : Nat → Option Nat) (l : Nat) (o : Option Nat) : Nat → Option Nat := fun k => if k = l then o else M k
def gST (w : Nat → Nat → Nat) (l : Nat) (x : (Nat → Bool) × Nat × (Nat → Option Nat)) (o : Option Nat) : (Nat → Bool) × Nat × (Nat → Option Nat) := match o with
  | none => x
  | some j => (woQ x.1 j, x.2.1 - w l j, upO x.2.2 l (some j))
noncomputable def gS (w : Nat → Nat → Nat) : Nat → (Nat → Bool) × Nat × (Nat → Option Nat)
  | 0 => (fun _ => true, opt w 0 (fun _ => true), fun _ => none)
  | l + 1 => gST w l (gS w l) (fsM (gdB w l (gS w l).1 (gS w l).2.1) 16)
theorem gS_s (w : Nat → Nat → Nat) (l : Nat) : gS w (l + 1) = gST w l (gS w l) (fsM (gdB w l (gS w l).1 (gS w l).2.1) 16) := rfl
theorem gS_zero {w : Nat → Nat → Nat} {l : Nat} (h : ∀ j, j < 16 → w l j = 0) : gS w (l + 1) = gS w l := by
  have : fsM (gdB w l (gS w l).1 (gS w l).2.1) 16 = none := by
    rw [fsM_none]
    intro k hk
    cases c : gdB w l (gS w l).1 (gS w l).2.1 k with
    | false => rfl
    | true =>
      have := (gdB_iff.mp c).2.1
      rw [h k hk] at this
      omega
  rw [gS_s, this]
  rfl
theorem gS_const {w : Nat → Nat → Nat} {a : Nat} : ∀ n, (∀ l, a ≤ l → l < a + n → ∀ j, j < 16 → w l j = 0) → gS w (a + n) = gS w a := by
  intro n
  induction n with
  | zero => intro _; rfl
  | succ n ih =>
    intro h
    rw [show a + (n + 1) = (a + n) + 1 by omega, gS_zero (h (a + n) (by omega) (by omega))]
    exact ih (fun l h1 h2 => h l h1 (by omega))
/-- when nothing is wanted, nothing comes -/
theorem gS_done {w : Nat → Nat → Nat} {l : Nat} (h : (gS w l).2.1 = 0) : ∀ n, gS w (l + n) = gS w l := by
  intro n
  induction n with
  | zero => rfl
  | succ n ih =>
    have : fsM (gdB w (l + n) (gS w (l + n)).1 (gS w (l + n)).2.1) 16 = none := by
      rw [fsM_none]
      intro k hk
      cases c : gdB w (l + n) (gS w (l + n)).1 (gS w (l + n)).2.1 k with
      | false => rfl
      | true =>
        have := gdB_iff.mp c
        rw [ih, h] at this
        omega
    rw [show l + (n + 1) = (l + n) + 1 by omega, gS_s, this]
    exact ih
theorem gS_inv (w : Nat → Nat → Nat) : ∀ l, (∀ k j, (gS w l).2.2 k = some j → k < l ∧ j < 16 ∧ 0 < w k j ∧ (gS w l).1 j = false) ∧ ∀ k k' j, (gS w l).2.2 k = some j → (gS w l).2.2 k' = some j → k = k' := by
  intro l
  induction l with
  | zero => exact ⟨fun k j h => (by cases h), fun k k' j h => (by cases h)⟩
  | succ l ih =>
    rw [gS_s]
    cases e : fsM (gdB w l (gS w l).1 (gS w l).2.1) 16 with
    | none =>
      refine ⟨fun k j h => ?_, ih.2⟩
      have := ih.1 k j h
      exact ⟨by omega, this.2⟩
    | some i =>
      have q := fsM_some.mp e
      have g := gdB_iff.mp q.2.1
      have old : ∀ k j, k ≠ l → upO (gS w l).2.2 l (some i) k = some j → (gS w l).2.2 k = some j := fun k j hk h => by
        unfold upO at h
        rw [if_neg hk] at h
        exact h
      have new : ∀ j, upO (gS w l).2.2 l (some i) l = some j → i = j := fun j h => by
        unfold upO at h
        rw [if_pos rfl] at h
        cases h
        rfl
      refine ⟨fun k j h => ?_, fun k k' j h h' => ?_⟩
      · have h : upO (gS w l).2.2 l (some i) k = some j := h
        show _ ∧ _ ∧ _ ∧ woQ (gS w l).1 i j = false
        by_cases c : k = l
        · rw [c] at h ⊢
          have := new j h
          subst this
          exact ⟨by omega, q.1, g.2.1, woQ_same _ _⟩
        · have a := ih.1 k j (old k j c h)
          refine ⟨by omega, a.2.1, a.2.2.1, ?_⟩
          by_cases d : j = i
          · rw [d]; exact woQ_same _ _
          · rw [woQ_ne _ d]; exact a.2.2.2
      · have h : upO (gS w l).2.2 l (some i) k = some j := h
        have h' : upO (gS w l).2.2 l (some i) k' = some j := h'
        by_cases c : k = l
        · by_cases c' : k' = l
          · rw [c, c']
          · rw [c] at h
            have := new j h
            subst this
            have a := ih.1 k' i (old k' i c' h')
            rw [g.1] at a
            exact absurd a.2.2.2 (by decide)
        · by_cases c' : k' = l
          · rw [c'] at h'
            have := new j h'
            subst this
            have a := ih.1 k i (old k i c h)
            rw [g.1] at a
            exact absurd a.2.2.2 (by decide)
          · exact ih.2 k k' j (old k j c h) (old k' j c' h')
/-- the way back -/
def invC (M : Nat → Option Nat) (m : Nat) : Option Nat := fsM (fun l => decide (M l = some m)) 16
theorem invC_up {M : Nat → Option Nat} {l j m : Nat} (hl : l < 16) (h0 : M l = none) (h1 : ∀ k, M k ≠ some j) : invC (upO M l (some j)) m = if m = j then some l else invC M m := by
  by_cases c : m = j
  · subst c
    rw [if_pos rfl]
    refine fsM_some.mpr ⟨hl, decide_eq_true (if_pos rfl), fun k hk => decide_eq_false (fun z => ?_)⟩
    unfold upO at z
    rw [if_neg (by omega)] at z
    exact h1 k z
  · rw [if_neg c]
    refine fsM_congr (fun k hk => ?_)
    show decide (upO M l (some j) k = some m) = _
    unfold upO
    by_cases d : k = l
    · rw [if_pos d, d, h0, decide_eq_false (fun z => by cases z; exact c rfl)]
      rfl
    · rw [if_neg d]
/-! the worth of a pair of lines -/
def dsI (D : Dt) (c d : Nat) : Nat := (((dmo D c).toInt + offX D (c / 48)) - ((dmo D d).toInt + offX D (d / 48))).natAbs
def eX (s b l : Nat) : Nat := 16 * (3 * s + b) + l
def pw (D : Dt) (s t b l k : Nat) : Nat := if dsB D (eX s b l) (eX t b k) = true ∧ (dsI D (eX s b l) (eX t b k) : Int) ≤ (dwin D).toInt then 100000 - dsI D (eX s b l) (eX t b k) else 0
noncomputable def mtF (D : Dt) (s t b : Nat) : Nat → Option Nat := (gS (pw D s t b) 16).2.2
/-- the contact that one is paired with -/
noncomputable def parF (D : Dt) (e : Nat) : Option Nat := match tgO D e with
  | none => none
  | some t => if e / 48 < t then (mtF D (e / 48) t (e / 16 % 3) (e % 16)).map (eX t (e / 16 % 3)) else if t < e / 48 then (invC (mtF D t (e / 48) (e / 16 % 3)) (e % 16)).map (eX t (e / 16 % 3)) else none
theorem eX_lt {n s b l : Nat} (hs : s < n) (hb : b < 3) (hl : l < 16) : eX s b l < 48 * n ∧ eX s b l / 48 = s ∧ eX s b l / 16 % 3 = b ∧ eX s b l % 16 = l ∧ eX s b l / 16 = 3 * s + b := by unfold eX; omega
theorem eX_ex (e : Nat) : e = eX (e / 48) (e / 16 % 3) (e % 16) := by unfold eX; omega
theorem pw_pos {D : Dt} {s t b l k : Nat} (hW : (dwin D).toInt ≤ 3600) (h : 0 < pw D s t b l k) : dsB D (eX s b l) (eX t b k) = true ∧ (dsI D (eX s b l) (eX t b k) : Int) ≤ (dwin D).toInt ∧ pw D s t b l k = 100000 - dsI D (eX s b l) (eX t b k) := by
  unfold pw at h ⊢
  by_cases c : dsB D (eX s b l) (eX t b k) = true ∧ (dsI D (eX s b l) (eX t b k) : Int) ≤ (dwin D).toInt
  · exact ⟨c.1, c.2, if_pos c⟩
  · rw [if_neg c] at h
    omega
theorem dsB_iff {D : Dt} {c d : Nat} : dsB D c d = true ↔ c / 48 ≠ d / 48 ∧ tgO D c = some (d / 48) ∧ tgO D d = some (c / 48) ∧ fitB D c d = true := by
  unfold dsB
  rw [Bool.and_eq_true, Bool.and_eq_true, Bool.and_eq_true, decide_eq_true_iff, decide_eq_true_iff, decide_eq_true_iff]
  exact ⟨fun z => ⟨z.1.1.1, z.1.1.2, z.1.2, z.2⟩, fun z => ⟨⟨⟨z.1, z.2.1⟩, z.2.2.1⟩, z.2.2.2⟩⟩
/-- no log: not off -/
theorem offX_nolog {D : Dt} {s : Nat} (wL : WgL D) (wn : dn D ≤ 12) (hs : s < dn D) (h : hlB D s = false) : offX D s = 0 := by
  have ms : ∀ k, k < 3 → dsz D (3 * s + k) = 0 := fun k hk => by
    refine (wL.1 (3 * s + k) (by omega)).2.1 ?_
    unfold hlB at h
    have h3 : dms D (3 * s) = true ∧ dms D (3 * s + 1) = true ∧ dms D (3 * s + 2) = true := by
      cases c0 : dms D (3 * s) <;> cases c1 : dms D (3 * s + 1) <;> cases c2 : dms D (3 * s + 2) <;> rw [c0, c1, c2] at h <;> first | exact ⟨rfl, rfl, rfl⟩ | cases h
    rcases (show k = 0 ∨ k = 1 ∨ k = 2 by omega) with q | q | q <;> subst q
    · exact h3.1
    · exact h3.2.1
    · exact h3.2.2
  have tg : ∀ j, j < 48 → mnB D s (48 * s + j) = false := fun j hj => by
    have : ctB D (48 * s + j) = false := by
      unfold ctB
      have e : (48 * s + j) / 16 = 3 * s + j / 16 := by omega
      rw [e, ms (j / 16) (by omega), decide_eq_false (by omega)]
      rfl
    unfold mnB tgO
    rw [this]
    rfl
  have g : ∀ j, j ≤ 48 → gf D s j = [] := by
    intro j
    induction j with
    | zero => intro _; rfl
    | succ j ih =>
      intro hj
      show gf D s j ++ _ = _
      rw [ih (by omega), tg j (by omega), if_neg (by decide)]
      rfl
  unfold offX lsX
  rw [g 48 (by omega)]
  split <;> rfl
