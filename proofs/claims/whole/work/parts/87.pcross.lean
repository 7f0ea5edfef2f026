/-! ===== pairs of two lists in one order: no crossing is needed ===== -/
def mkW (u : Nat → Nat → Nat) (P Q : Nat → Bool) (k m : Nat) : Nat := if P k = true ∧ Q m = true then u k m else 0
def bsN (prev g : Nat → Nat) : Nat → Nat
  | 0 => 0
  | j + 1 => max (max (prev (j + 1)) (bsN prev g j)) (if 0 < g j then prev j + g j else 0)
def bsR (v : Nat → Nat → Nat) (n c : Nat) : Nat → Nat → Nat
  | 0 => fun _ => 0
  | i + 1 => bsN (bsR v n c i) (fun j => v (n - 1 - i) (c - 1 - j))
/-- the best of the rows from k on and the columns from m on -/
def bsK (v : Nat → Nat → Nat) (n c k m : Nat) : Nat := bsR v n c (n - k) (c - m)
theorem bsK_n (v : Nat → Nat → Nat) (n c m : Nat) : bsK v n c n m = 0 := by
  unfold bsK
  rw [Nat.sub_self]
  rfl
theorem bsK_c (v : Nat → Nat → Nat) (n c k : Nat) : bsK v n c k c = 0 := by
  unfold bsK
  rw [Nat.sub_self]
  cases n - k <;> rfl
theorem bsK_s {v : Nat → Nat → Nat} {n c k m : Nat} (hk : k < n) (hm : m < c) : bsK v n c k m = max (max (bsK v n c (k + 1) m) (bsK v n c k (m + 1))) (if 0 < v k m then bsK v n c (k + 1) (m + 1) + v k m else 0) := by
  unfold bsK
  obtain ⟨i, hi⟩ : ∃ i, n - k = i + 1 := ⟨n - k - 1, by omega⟩
  obtain ⟨j, hj⟩ : ∃ j, c - m = j + 1 := ⟨c - m - 1, by omega⟩
  have e1 : n - (k + 1) = i := by omega
  have e2 : c - (m + 1) = j := by omega
  have e3 : n - 1 - i = k := by omega
  have e4 : c - 1 - j = m := by omega
  rw [e1, e2, hi, hj]
  show max (max (bsR v n c i (j + 1)) (bsN (bsR v n c i) (fun j => v (n - 1 - i) (c - 1 - j)) j)) (if 0 < v (n - 1 - i) (c - 1 - j) then bsR v n c i j + v (n - 1 - i) (c - 1 - j) else 0) = _
  rw [e3, e4]
  have e5 : (fun j => v (n - 1 - i) (c - 1 - j)) = (fun j => v k (c - 1 - j)) := by rw [e3]
  show _ = max (max (bsR v n c i (j + 1)) (bsN (bsR v n c i) (fun j => v (n - 1 - i) (c - 1 - j)) j)) _
  rw [e5]
theorem bsK_bd {v : Nat → Nat → Nat} {n c : Nat} (hv : ∀ k m, v k m ≤ 100000) : ∀ r k m, k + r = n → m ≤ c → bsK v n c k m ≤ 100000 * r := by
  intro r
  induction r with
  | zero =>
    intro k m hk hm
    have : k = n := by omega
    rw [this, bsK_n]
    omega
  | succ r ih =>
    intro k m hk hm
    obtain ⟨j, hj⟩ : ∃ j, m + j = c := ⟨c - m, by omega⟩
    clear hm
    induction j generalizing m with
    | zero =>
      have : m = c := by omega
      rw [this, bsK_c]
      omega
    | succ j ihj =>
      rw [bsK_s (by omega) (by omega)]
      have a1 := ih (k + 1) m (by omega) (by omega)
      have a2 := ihj (m + 1) (by omega)
      have a3 := ih (k + 1) (m + 1) (by omega) (by omega)
      have a4 := hv k m
      split <;> omega
/-- two pairs that cross may be put straight -/
def Unx (u : Nat → Nat → Nat) (n c : Nat) : Prop := ∀ k k' m m', k < k' → k' < n → m < m' → m' < c → 0 < u k m' → 0 < u k' m → 0 < u k m ∧ 0 < u k' m' ∧ u k m' + u k' m ≤ u k m + u k' m'
theorem wtM_up (w : Nat → Nat → Nat) (M : Nat → Option Nat) {k n : Nat} (o : Option Nat) (hk : k < n) : wtM w M n + wtO w k o = wtM w (upO M k o) n + wtO w k (M k) := by
  have := sm_upd (f := fun i => wtO w i (M i)) (g := fun i => wtO w i (upO M k o i)) (k := k) (fun i hi => by
    show wtO w i (M i) = wtO w i (upO M k o i)
    unfold upO
    rw [if_neg hi]) n hk
  have e : wtO w k (upO M k o k) = wtO w k o := by unfold upO; rw [if_pos rfl]
  have this : wtM w M n + wtO w k (upO M k o k) = wtM w (upO M k o) n + wtO w k (M k) := this
  rw [e] at this
  exact this
def frB (k : Nat) (P : Nat → Bool) (i : Nat) : Bool := decide (k ≤ i) && P i
theorem frB_iff {k i : Nat} {P : Nat → Bool} : frB k P i = true ↔ k ≤ i ∧ P i = true := by
  unfold frB
  rw [Bool.and_eq_true, decide_eq_true_iff]
theorem mkW_pos {u : Nat → Nat → Nat} {P Q : Nat → Bool} {k m : Nat} : 0 < mkW u P Q k m ↔ P k = true ∧ Q m = true ∧ 0 < u k m := by
  unfold mkW
  by_cases c : P k = true ∧ Q m = true
  · rw [if_pos c]
    exact ⟨fun z => ⟨c.1, c.2, z⟩, fun z => z.2.2⟩
  · rw [if_neg c]
    exact ⟨fun z => absurd z (by omega), fun z => absurd ⟨z.1, z.2.1⟩ c⟩
theorem mkW_eq {u : Nat → Nat → Nat} {P Q : Nat → Bool} {k m : Nat} (h1 : P k = true) (h2 : Q m = true) : mkW u P Q k m = u k m := if_pos ⟨h1, h2⟩
theorem upO_s (M : Nat → Option Nat) (k : Nat) (o : Option Nat) : upO M k o k = o := if_pos rfl
theorem upO_ne (M : Nat → Option Nat) {k i : Nat} (o : Option Nat) (h : i ≠ k) : upO M k o i = M i := if_neg h
theorem IsMt.sub {w : Nat → Nat → Nat} {n c : Nat} {P Q P' Q' : Nat → Bool} {M : Nat → Option Nat} (x : IsMt w n c P Q M) (h : ∀ i j, M i = some j → P' i = true ∧ Q' j = true) : IsMt w n c P' Q' M := ⟨fun i j e => by
  obtain ⟨a1, a2, a3, a4, a5⟩ := x.1 i j e
  exact ⟨a1, a2, (h i j e).1, (h i j e).2, a5⟩, x.2⟩
theorem bsK_ex {u : Nat → Nat → Nat} {n c : Nat} {P Q : Nat → Bool} : ∀ r k m, (n - k) + (c - m) ≤ r → k ≤ n → m ≤ c → ∃ M, IsMt u n c (frB k P) (frB m Q) M ∧ wtM u M n = bsK (mkW u P Q) n c k m := by
  intro r
  induction r with
  | zero =>
    intro k m h hk hm
    have : k = n := by omega
    rw [this, bsK_n]
    exact ⟨fun _ => none, ⟨(fun i j h => by cases h), (fun i i' j h => by cases h)⟩, sm_0 n⟩
  | succ r ih =>
    intro k m h hk hm
    by_cases c1 : k = n
    · rw [c1, bsK_n]
      exact ⟨fun _ => none, ⟨(fun i j h => by cases h), (fun i i' j h => by cases h)⟩, sm_0 n⟩
    by_cases c2 : m = c
    · rw [c2, bsK_c]
      exact ⟨fun _ => none, ⟨(fun i j h => by cases h), (fun i i' j h => by cases h)⟩, sm_0 n⟩
    have e := bsK_s (v := mkW u P Q) (show k < n by omega) (show m < c by omega)
    have up1 : ∀ {M : Nat → Option Nat}, IsMt u n c (frB (k + 1) P) (frB m Q) M → IsMt u n c (frB k P) (frB m Q) M := fun x => x.sub (fun i j h => by
      obtain ⟨_, _, a3, a4, _⟩ := x.1 i j h
      rw [frB_iff] at a3 a4 ⊢
      exact ⟨⟨by omega, a3.2⟩, frB_iff.mpr a4⟩)
    have up2 : ∀ {M : Nat → Option Nat}, IsMt u n c (frB k P) (frB (m + 1) Q) M → IsMt u n c (frB k P) (frB m Q) M := fun x => x.sub (fun i j h => by
      obtain ⟨_, _, a3, a4, _⟩ := x.1 i j h
      rw [frB_iff] at a4
      exact ⟨a3, frB_iff.mpr ⟨by omega, a4.2⟩⟩)
    have pick : bsK (mkW u P Q) n c k m = bsK (mkW u P Q) n c (k + 1) m ∨ bsK (mkW u P Q) n c k m = bsK (mkW u P Q) n c k (m + 1) ∨ 0 < mkW u P Q k m ∧ bsK (mkW u P Q) n c k m = bsK (mkW u P Q) n c (k + 1) (m + 1) + mkW u P Q k m := by
      by_cases d : 0 < mkW u P Q k m
      · rw [if_pos d] at e
        omega
      · rw [if_neg d] at e
        omega
    rcases pick with p | p | ⟨p0, p⟩
    · obtain ⟨M, a, b⟩ := ih (k + 1) m (by omega) (by omega) (by omega)
      exact ⟨M, up1 a, by rw [p, b]⟩
    · obtain ⟨M, a, b⟩ := ih k (m + 1) (by omega) (by omega) (by omega)
      exact ⟨M, up2 a, by rw [p, b]⟩
    · obtain ⟨M, a, b⟩ := ih (k + 1) (m + 1) (by omega) (by omega) (by omega)
      have q := mkW_pos.mp p0
      have hk0 : M k = none := by
        cases h : M k with
        | none => rfl
        | some j =>
          have := (a.1 k j h).2.2.1
          rw [frB_iff] at this
          omega
      have hm0 : ∀ i, M i ≠ some m := fun i h => by
        have := (a.1 i m h).2.2.2.1
        rw [frB_iff] at this
        omega
      refine ⟨upO M k (some m), ⟨fun i j h => ?_, fun i i' j h h' => ?_⟩, ?_⟩
      · by_cases d : i = k
        · rw [d, upO_s] at h
          cases h
          rw [d]
          exact ⟨by omega, by omega, frB_iff.mpr ⟨by omega, q.1⟩, frB_iff.mpr ⟨by omega, q.2.1⟩, q.2.2⟩
        · rw [upO_ne _ _ d] at h
          obtain ⟨a1, a2, a3, a4, a5⟩ := a.1 i j h
          rw [frB_iff] at a3 a4
          exact ⟨a1, a2, frB_iff.mpr ⟨by omega, a3.2⟩, frB_iff.mpr ⟨by omega, a4.2⟩, a5⟩
      · by_cases d : i = k
        · by_cases d' : i' = k
          · rw [d, d']
          · rw [d, upO_s] at h
            cases h
            rw [upO_ne _ _ d'] at h'
            exact absurd h' (hm0 i')
        · by_cases d' : i' = k
          · rw [d', upO_s] at h'
            cases h'
            rw [upO_ne _ _ d] at h
            exact absurd h (hm0 i)
          · rw [upO_ne _ _ d] at h
            rw [upO_ne _ _ d'] at h'
            exact a.2 i i' j h h'
      · have := wtM_up u M (k := k) (n := n) (some m) (by omega)
        rw [hk0, b] at this
        have e0 : wtO u k none = 0 := rfl
        have e1 : wtO u k (some m) = u k m := rfl
        rw [e0, e1] at this
        rw [p, mkW_eq q.1 q.2.1]
        omega
theorem wtM_0 {u : Nat → Nat → Nat} {M : Nat → Option Nat} {n : Nat} (h : ∀ i, i < n → M i = none) : wtM u M n = 0 := by
  unfold wtM
  rw [sm_congr (g := fun _ => 0) n (fun i hi => by rw [h i hi]; rfl), sm_0]
theorem bsK_ub {u : Nat → Nat → Nat} {n c : Nat} {P Q : Nat → Bool} (X : Unx u n c) : ∀ r k m, (n - k) + (c - m) ≤ r → k ≤ n → m ≤ c → ∀ M, IsMt u n c (frB k P) (frB m Q) M → wtM u M n ≤ bsK (mkW u P Q) n c k m := by
  intro r
  induction r with
  | zero =>
    intro k m h hk hm M x
    rw [wtM_0 (fun i hi => by
      cases e : M i with
      | none => rfl
      | some j =>
        have := (x.1 i j e).2.2.1
        rw [frB_iff] at this
        omega)]
    omega
  | succ r ih =>
    intro k m h hk hm M x
    by_cases c1 : k = n
    · rw [wtM_0 (fun i hi => by
        cases e : M i with
        | none => rfl
        | some j =>
          have := (x.1 i j e).2.2.1
          rw [frB_iff] at this
          omega)]
      omega
    by_cases c2 : m = c
    · rw [wtM_0 (fun i hi => by
        cases e : M i with
        | none => rfl
        | some j =>
          have := (x.1 i j e)
          rw [frB_iff, frB_iff] at this
          omega)]
      omega
    have e := bsK_s (v := mkW u P Q) (show k < n by omega) (show m < c by omega)
    -- the first two are a pair
    have both : ∀ M, IsMt u n c (frB k P) (frB m Q) M → M k = some m → wtM u M n ≤ bsK (mkW u P Q) n c k m := by
      intro M x hM
      obtain ⟨a1, a2, a3, a4, a5⟩ := x.1 k m hM
      rw [frB_iff] at a3 a4
      have y : IsMt u n c (frB (k + 1) P) (frB (m + 1) Q) (upO M k none) := by
        refine ⟨fun i j hi => ?_, fun i i' j hi hi' => ?_⟩
        · by_cases d : i = k
          · rw [d, upO_s] at hi; cases hi
          · rw [upO_ne _ _ d] at hi
            obtain ⟨b1, b2, b3, b4, b5⟩ := x.1 i j hi
            rw [frB_iff] at b3 b4
            have : j ≠ m := fun z => d (x.2 i k m (z ▸ hi) hM)
            exact ⟨b1, b2, frB_iff.mpr ⟨by omega, b3.2⟩, frB_iff.mpr ⟨by omega, b4.2⟩, b5⟩
        · by_cases d : i = k
          · rw [d, upO_s] at hi; cases hi
          · by_cases d' : i' = k
            · rw [d', upO_s] at hi'; cases hi'
            · rw [upO_ne _ _ d] at hi
              rw [upO_ne _ _ d'] at hi'
              exact x.2 i i' j hi hi'
      have := ih (k + 1) (m + 1) (by omega) (by omega) (by omega) _ y
      have v := wtM_up u M (k := k) (n := n) none (by omega)
      rw [hM] at v
      have e0 : wtO u k none = 0 := rfl
      have e1 : wtO u k (some m) = u k m := rfl
      rw [e0, e1] at v
      rw [if_pos (mkW_pos.mpr ⟨a3.2, a4.2, a5⟩), mkW_eq a3.2 a4.2] at e
      omega
    cases hk' : M k with
    | none =>
      have := ih (k + 1) m (by omega) (by omega) (by omega) M (x.sub (fun i j hi => by
        obtain ⟨b1, b2, b3, b4, b5⟩ := x.1 i j hi
        rw [frB_iff] at b3
        have : i ≠ k := fun z => by rw [z, hk'] at hi; cases hi
        exact ⟨frB_iff.mpr ⟨by omega, b3.2⟩, b4⟩))
      omega
    | some m' =>
      by_cases d : m' = m
      · rw [d] at hk'
        exact both M x hk'
      · by_cases ex : ∃ k', M k' = some m
        · obtain ⟨k', hk2⟩ := ex
          obtain ⟨a1, a2, a3, a4, a5⟩ := x.1 k m' hk'
          obtain ⟨b1, b2, b3, b4, b5⟩ := x.1 k' m hk2
          rw [frB_iff] at a3 a4 b3 b4
          have kk : k' ≠ k := fun z => by rw [z, hk'] at hk2; cases hk2; exact d rfl
          obtain ⟨x1, x2, x3⟩ := X k k' m m' (by omega) b1 (by omega) a2 a5 b5
          have y : IsMt u n c (frB k P) (frB m Q) (upO (upO M k (some m)) k' (some m')) := by
            have val : ∀ i j, upO (upO M k (some m)) k' (some m') i = some j → i = k' ∧ j = m' ∨ i ≠ k' ∧ i = k ∧ j = m ∨ i ≠ k' ∧ i ≠ k ∧ M i = some j := fun i j hi => by
              by_cases d1 : i = k'
              · rw [d1, upO_s] at hi; cases hi
                exact Or.inl ⟨d1, rfl⟩
              · rw [upO_ne _ _ d1] at hi
                by_cases d2 : i = k
                · rw [d2, upO_s] at hi; cases hi
                  exact Or.inr (Or.inl ⟨d1, d2, rfl⟩)
                · rw [upO_ne _ _ d2] at hi
                  exact Or.inr (Or.inr ⟨d1, d2, hi⟩)
            refine ⟨fun i j hi => ?_, fun i i' j hi hi' => ?_⟩
            · rcases val i j hi with ⟨z1, z2⟩ | ⟨_, z1, z2⟩ | ⟨_, _, z⟩
              · subst z1; subst z2
                exact ⟨b1, a2, frB_iff.mpr b3, frB_iff.mpr a4, x2⟩
              · subst z1; subst z2
                exact ⟨a1, b2, frB_iff.mpr a3, frB_iff.mpr b4, x1⟩
              · exact x.1 i j z
            · rcases val i j hi with ⟨z1, z2⟩ | ⟨z0, z1, z2⟩ | ⟨z0, z1, z⟩ <;> rcases val i' j hi' with ⟨y1, y2⟩ | ⟨y0, y1, y2⟩ | ⟨y0, y1, y⟩
              · omega
              · omega
              · rw [z2] at y
                exact absurd (x.2 i' k m' y hk') y1
              · omega
              · omega
              · rw [z2] at y
                exact absurd (x.2 i' k' m y hk2) y0
              · rw [y2] at z
                exact absurd (x.2 i k m' z hk') z1
              · rw [y2] at z
                exact absurd (x.2 i k' m z hk2) z0
              · exact x.2 i i' j z y
          have := both _ y (by rw [upO_ne _ _ (fun z => kk z.symm), upO_s])
          have v1 := wtM_up u M (k := k) (n := n) (some m) (by omega)
          have v2 := wtM_up u (upO M k (some m)) (k := k') (n := n) (some m') b1
          rw [upO_ne _ _ kk, hk2] at v2
          rw [hk'] at v1
          have e0 : wtO u k (some m) = u k m := rfl
          have e1 : wtO u k (some m') = u k m' := rfl
          have e2 : wtO u k' (some m) = u k' m := rfl
          have e3 : wtO u k' (some m') = u k' m' := rfl
          rw [e0, e1] at v1
          rw [e2, e3] at v2
          omega
        · have := ih k (m + 1) (by omega) (by omega) (by omega) M (x.sub (fun i j hi => by
            obtain ⟨b1, b2, b3, b4, b5⟩ := x.1 i j hi
            rw [frB_iff] at b4
            have : j ≠ m := fun z => ex ⟨i, z ▸ hi⟩
            exact ⟨b3, frB_iff.mpr ⟨by omega, b4.2⟩⟩))
          omega
theorem frB_0 (P : Nat → Bool) : frB 0 P = P := funext (fun i => by unfold frB; rw [decide_eq_true (Nat.zero_le i)]; rfl)
theorem bsK_mx {u : Nat → Nat → Nat} {n c : Nat} {P Q : Nat → Bool} (X : Unx u n c) : IsMx u n c P Q (bsK (mkW u P Q) n c 0 0) := by
  obtain ⟨M, a, b⟩ := bsK_ex (u := u) (n := n) (c := c) (P := P) (Q := Q) (n + c) 0 0 (by omega) (by omega) (by omega)
  have ub := bsK_ub (P := P) (Q := Q) X (n + c) 0 0 (by omega) (by omega) (by omega)
  rw [frB_0, frB_0] at a ub
  exact ⟨⟨M, a, b⟩, ub⟩
/-! the two logs in their order -/
/-- (sent, got, moment) of one come not after those of the other -/
def leK (a b : Int × Int × Int) : Prop := a.1 < b.1 ∨ a.1 = b.1 ∧ (a.2.1 < b.2.1 ∨ a.2.1 = b.2.1 ∧ a.2.2 ≤ b.2.2)
def ltK (a b : Int × Int × Int) : Prop := a.1 < b.1 ∨ a.1 = b.1 ∧ (a.2.1 < b.2.1 ∨ a.2.1 = b.2.1 ∧ a.2.2 < b.2.2)
def keyE (D : Dt) (tn : Bool) (e : Nat) : Int × Int × Int := if tn = true then ((dgt D e).toInt, (dsn D e).toInt, (dmo D e).toInt) else ((dsn D e).toInt, (dgt D e).toInt, (dmo D e).toInt)
/-- those in the order: named so, and both numbers there -/
def orB (D : Dt) (s t b l : Nat) : Bool := decide (tgO D (eX s b l) = some t) && whB D (eX s b l)
/-- n lines in their order -/
def OrdL (D : Dt) (tn : Bool) (s t b k n : Nat) (f : Nat → Nat) : Prop := n ≤ k ∧ (∀ i, i < n → f i < k ∧ orB D s t b (f i) = true) ∧ (∀ i j, i < n → j < n → f i = f j → i = j) ∧ (∀ l, l < k → orB D s t b l = true → ∃ i, i < n ∧ f i = l) ∧ ∀ i j, i < j → j < n → leK (keyE D tn (eX s b (f i))) (keyE D tn (eX s b (f j)))
theorem fitB_iff {D : Dt} {c d : Nat} : fitB D c d = true ↔ whB D c = true ∧ whB D d = true ∧ dgt D c = dsn D d ∧ dgt D d = dsn D c := by
  unfold fitB
  rw [Bool.and_eq_true, Bool.and_eq_true, Bool.and_eq_true, decide_eq_true_iff, decide_eq_true_iff]
  exact ⟨fun z => ⟨z.1.1.1, z.1.1.2, z.1.2, z.2⟩, fun z => ⟨⟨⟨z.1, z.2.1⟩, z.2.2.1⟩, z.2.2.2⟩⟩
theorem OrdL.unx {D : Dt} {s t b n c : Nat} {f g : Nat → Nat} (wP : WgP D) (hb : b < 3) (x : OrdL D false s t b 16 n f) (y : OrdL D true t s b 16 c g) : Unx (fun k m => pw D s t b (f k) (g m)) n c := by
  intro k k' m m' hk hk' hm hm' h1 h2
  have h1 : 0 < pw D s t b (f k) (g m') := h1
  have h2 : 0 < pw D s t b (f k') (g m) := h2
  obtain ⟨a1, a2, a3⟩ := pw_pos wP.1.2 h1
  obtain ⟨b1, b2, b3⟩ := pw_pos wP.1.2 h2
  rw [dsB_iff, fitB_iff] at a1 b1
  have fk := (x.2.1 k (by omega)).1
  have fk' := (x.2.1 k' hk').1
  have gm := (y.2.1 m (by omega)).1
  have gm' := (y.2.1 m' hm').1
  have d1 : ∀ u l, l < 16 → eX u b l / 48 = u := fun u l hl => by unfold eX; omega
  rw [d1 s _ fk, d1 t _ gm'] at a1
  rw [d1 s _ fk', d1 t _ gm] at b1
  have o1 := x.2.2.2.2 k k' hk hk'
  have o2 := y.2.2.2.2 m m' hm hm'
  have kx : ∀ e, keyE D false e = ((dsn D e).toInt, (dgt D e).toInt, (dmo D e).toInt) := fun e => if_neg (by decide)
  have ky : ∀ e, keyE D true e = ((dgt D e).toInt, (dsn D e).toInt, (dmo D e).toInt) := fun e => if_pos rfl
  rw [kx, kx] at o1
  rw [ky, ky] at o2
  unfold leK at o1 o2
  dsimp only at o1 o2
  obtain ⟨p1, p2, p3, p4, p5, p6, p7⟩ := a1
  obtain ⟨r1, r2, r3, r4, r5, r6, r7⟩ := b1
  rw [p6] at o1
  rw [r6] at o1
  rw [p7] at o2
  rw [r7] at o2
  have q1 : (dsn D (eX s b (f k))).toInt = (dsn D (eX s b (f k'))).toInt := by omega
  have q2 : (dsn D (eX t b (g m'))).toInt = (dsn D (eX t b (g m))).toInt := by omega
  have q3 : (dmo D (eX s b (f k))).toInt ≤ (dmo D (eX s b (f k'))).toInt := by omega
  have q4 : (dmo D (eX t b (g m))).toInt ≤ (dmo D (eX t b (g m'))).toInt := by omega
  have q1' := Int32.toInt_inj.mp q1
  have q2' := Int32.toInt_inj.mp q2
  have n1 : dsB D (eX s b (f k)) (eX t b (g m)) = true := by
    rw [dsB_iff, fitB_iff, d1 s _ fk, d1 t _ gm]
    exact ⟨p1, p2, r3, p4, r5, by rw [p6, q2'], by rw [r7, q1']⟩
  have n2 : dsB D (eX s b (f k')) (eX t b (g m')) = true := by
    rw [dsB_iff, fitB_iff, d1 s _ fk', d1 t _ gm']
    exact ⟨p1, r2, p3, r4, p5, by rw [r6, q2'], by rw [p7, q1']⟩
  show 0 < pw D s t b (f k) (g m) ∧ 0 < pw D s t b (f k') (g m') ∧ pw D s t b (f k) (g m') + pw D s t b (f k') (g m) ≤ pw D s t b (f k) (g m) + pw D s t b (f k') (g m')
  rw [a3, b3]
  have w2 := wP.1.2
  unfold pw
  have e1 : dsI D (eX s b (f k)) (eX t b (g m')) = (((dmo D (eX s b (f k))).toInt + offX D s) - ((dmo D (eX t b (g m'))).toInt + offX D t)).natAbs := by unfold dsI; rw [d1 s _ fk, d1 t _ gm']
  have e2 : dsI D (eX s b (f k')) (eX t b (g m)) = (((dmo D (eX s b (f k'))).toInt + offX D s) - ((dmo D (eX t b (g m))).toInt + offX D t)).natAbs := by unfold dsI; rw [d1 s _ fk', d1 t _ gm]
  have e3 : dsI D (eX s b (f k)) (eX t b (g m)) = (((dmo D (eX s b (f k))).toInt + offX D s) - ((dmo D (eX t b (g m))).toInt + offX D t)).natAbs := by unfold dsI; rw [d1 s _ fk, d1 t _ gm]
  have e4 : dsI D (eX s b (f k')) (eX t b (g m')) = (((dmo D (eX s b (f k'))).toInt + offX D s) - ((dmo D (eX t b (g m'))).toInt + offX D t)).natAbs := by unfold dsI; rw [d1 s _ fk', d1 t _ gm']
  generalize dsI D (eX s b (f k)) (eX t b (g m')) = z1 at *
  generalize dsI D (eX s b (f k')) (eX t b (g m)) = z2 at *
  generalize dsI D (eX s b (f k)) (eX t b (g m)) = z3 at *
  generalize dsI D (eX s b (f k')) (eX t b (g m')) = z4 at *
  have t1 : (z3 : Int) ≤ (dwin D).toInt := by omega
  have t2 : (z4 : Int) ≤ (dwin D).toInt := by omega
  have t3 : z3 + z4 ≤ z1 + z2 := by omega
  rw [if_pos ⟨n1, t1⟩, if_pos ⟨n2, t2⟩]
  omega
/-- the best in that order is the greatest worth of the lines -/
theorem OrdL.opt {D : Dt} {s t b n c : Nat} {f g : Nat → Nat} (wP : WgP D) (hb : b < 3) (x : OrdL D false s t b 16 n f) (y : OrdL D true t s b 16 c g) (l : Nat) (Q : Nat → Bool) : opt (pw D s t b) l Q = bsK (mkW (fun k m => pw D s t b (f k) (g m)) (fun k => decide (l ≤ f k)) (fun m => Q (g m))) n c 0 0 := by
  refine opt_eq (IsMx.map (ρ := f) (κ := g) (bsK_mx (OrdL.unx wP hb x y)) (fun i hi => (x.2.1 i hi).1) x.2.2.1 (fun j hj => (y.2.1 j hj).1) y.2.2.1 (fun i j _ _ => rfl) (fun i _ => rfl) (fun j _ => rfl) (fun i j hi hj _ _ hw => ?_))
  have ps := (pw_pos wP.1.2 hw).1
  have d1 : ∀ u l, l < 16 → eX u b l / 48 = u := fun u l hl => by unfold eX; omega
  rw [dsB_iff, fitB_iff, d1 s _ hi, d1 t _ hj] at ps
  refine ⟨x.2.2.2.1 i hi ?_, y.2.2.2.1 j hj ?_⟩
  · unfold orB
    rw [decide_eq_true ps.2.1, ps.2.2.2.1]; rfl
  · unfold orB
    rw [decide_eq_true ps.2.2.1, ps.2.2.2.2.1]; rfl
