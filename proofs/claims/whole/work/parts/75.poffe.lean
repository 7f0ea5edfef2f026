/-! ===== how a clock is off: both edges of a gap come to the same as the inner ones ===== -/
def lsM (D : Dt) (s : Nat) : Nat → List Int
  | 0 => []
  | j + 1 => lsM D s j ++ (gpC D s (48 * s + j)).flatMap (fun g => [g.toInt - (dwin D).toInt, g.toInt + (dwin D).toInt])
def offM (D : Dt) (s : Nat) : Int := if okO D s 0 = true then 0 else ((lsM D s 48).foldl (scS (okO D s)) none).getD 0
/-- what a scan leaves -/
theorem scan_spec (ok : Int → Bool) : ∀ (l : List Int) (b : Option Int), (∀ x, b = some x → ok x = true) → ((l.foldl (scS ok) b = none ↔ (b = none ∧ ∀ o ∈ l, ok o = false)) ∧ ∀ x, l.foldl (scS ok) b = some x → ok x = true ∧ (x ∈ l ∨ b = some x) ∧ (∀ o ∈ l, ok o = true → nrB o x = false) ∧ (∀ y, b = some y → nrB y x = false)) := by
  have irr : ∀ x, nrB x x = false := fun x => by unfold nrB; exact decide_eq_false (by omega)
  have tr : ∀ x y z, nrB x y = true → nrB y z = true → nrB x z = true := fun x y z h1 h2 => by
    unfold nrB at h1 h2 ⊢
    rw [decide_eq_true_iff] at h1 h2 ⊢
    omega
  have tot : ∀ x y z, nrB x y = false → nrB z y = true → nrB x z = false := fun x y z h1 h2 => by
    cases h : nrB x z with
    | false => rfl
    | true => rw [tr x z y h h2] at h1; cases h1
  intro l
  induction l with
  | nil =>
    intro b hb
    refine ⟨⟨fun h => ⟨h, fun o ho => by cases ho⟩, fun h => h.1⟩, fun x hx => ⟨hb x hx, Or.inr hx, fun o ho => (by cases ho), fun y hy => ?_⟩⟩
    have hx : b = some x := hx
    rw [hx] at hy
    cases hy
    exact irr x
  | cons o l ih =>
    intro b hb
    rw [List.foldl_cons]
    have es : scS ok b o = if nrO b o && ok o then some o else b := rfl
    rw [es]
    by_cases c : (nrO b o && ok o) = true
    · rw [if_pos c]
      rw [Bool.and_eq_true] at c
      obtain ⟨i1, i2⟩ := ih (some o) (fun x hx => by cases hx; exact c.2)
      refine ⟨⟨fun h => ?_, fun h => ?_⟩, fun x hx => ?_⟩
      · have := (i1.mp h).1
        cases this
      · have := h.2 o (List.mem_cons_self ..)
        rw [c.2] at this
        cases this
      · obtain ⟨k1, k2, k3, k4⟩ := i2 x hx
        refine ⟨k1, ?_, fun y hy hok => ?_, fun y hy => ?_⟩
        · rcases k2 with k2 | k2
          · exact Or.inl (List.mem_cons_of_mem _ k2)
          · cases k2
            exact Or.inl (List.mem_cons_self ..)
        · rcases List.mem_cons.mp hy with h | h
          · subst h
            exact k4 y rfl
          · exact k3 y h hok
        · have hn : nrB o y = true := by
            have := c.1
            rw [hy] at this
            exact this
          cases h : nrB y x with
          | false => rfl
          | true =>
            have := k4 o rfl
            rw [tr o y x hn h] at this
            cases this
    · rw [if_neg c]
      obtain ⟨i1, i2⟩ := ih b hb
      have c' : ok o = true → nrO b o = false := fun h => by
        cases h2 : nrO b o with
        | false => rfl
        | true => rw [h, h2] at c; exact absurd rfl c
      refine ⟨⟨fun h => ?_, fun h => i1.mpr ⟨h.1, fun y hy => h.2 y (List.mem_cons_of_mem _ hy)⟩⟩, fun x hx => ?_⟩
      · obtain ⟨j1, j2⟩ := i1.mp h
        refine ⟨j1, fun y hy => ?_⟩
        rcases List.mem_cons.mp hy with e | e
        · subst e
          cases h2 : ok y with
          | false => rfl
          | true =>
            have := c' h2
            rw [j1] at this
            cases this
        · exact j2 y e
      · obtain ⟨k1, k2, k3, k4⟩ := i2 x hx
        refine ⟨k1, ?_, fun y hy hok => ?_, k4⟩
        · rcases k2 with k2 | k2
          · exact Or.inl (List.mem_cons_of_mem _ k2)
          · exact Or.inr k2
        · rcases List.mem_cons.mp hy with e | e
          · subst e
            have h2 := c' hok
            cases hb2 : b with
            | none => rw [hb2] at h2; cases h2
            | some u =>
              rw [hb2] at h2
              have h2 : nrB y u = false := h2
              have h4 := k4 u hb2
              cases h : nrB y x with
              | false => rfl
              | true =>
                -- y before x; u not before x; so y before u
                unfold nrB at h2 h4 h
                rw [decide_eq_false_iff_not] at h2 h4
                rw [decide_eq_true_iff] at h
                omega
          · exact k3 y e hok
theorem lsM_mem {D : Dt} {s : Nat} : ∀ j o, o ∈ lsM D s j ↔ ∃ k, k < j ∧ ∃ g ∈ gpC D s (48 * s + k), o = g.toInt - (dwin D).toInt ∨ o = g.toInt + (dwin D).toInt := by
  intro j
  induction j with
  | zero => intro o; exact ⟨fun h => (by cases h), fun ⟨k, hk, _⟩ => (by omega)⟩
  | succ j ih =>
    intro o
    unfold lsM
    rw [List.mem_append, ih, List.mem_flatMap]
    constructor
    · intro h
      rcases h with ⟨k, hk, g, hg, e⟩ | ⟨g, hg, e⟩
      · exact ⟨k, by omega, g, hg, e⟩
      · refine ⟨j, by omega, g, hg, ?_⟩
        simpa using e
    · intro ⟨k, hk, g, hg, e⟩
      by_cases c : k = j
      · subst c
        exact Or.inr ⟨g, hg, by simpa using e⟩
      · exact Or.inl ⟨k, by omega, g, hg, e⟩
theorem gf_mem {D : Dt} (w : WgL D) (wn : dn D ≤ 12) {s : Nat} : ∀ j g, (∃ x ∈ gf D s j, x.2 = g) ↔ ∃ k, k < j ∧ g ∈ gpC D s (48 * s + k) := by
  intro j
  induction j with
  | zero => intro g; exact ⟨fun ⟨x, h, _⟩ => (by cases h), fun ⟨k, hk, _⟩ => (by omega)⟩
  | succ j ih =>
    intro g
    unfold gf
    constructor
    · intro ⟨x, hx, e⟩
      rcases List.mem_append.mp hx with h | h
      · obtain ⟨k, hk, hg⟩ := (ih g).mp ⟨x, h, e⟩
        exact ⟨k, by omega, hg⟩
      · split at h
        · obtain ⟨y, hy, rfl⟩ := List.mem_map.mp h
          exact ⟨j, by omega, e ▸ hy⟩
        · cases h
    · intro ⟨k, hk, hg⟩
      by_cases c : k = j
      · subst c
        have hm : mnB D s (48 * s + k) = true := by
          cases h : mnB D s (48 * s + k) with
          | true => rfl
          | false =>
            rw [gp_none w wn h] at hg
            cases hg
        rw [if_pos hm]
        exact ⟨(_, g), List.mem_append.mpr (Or.inr (List.mem_map.mpr ⟨g, hg, rfl⟩)), rfl⟩
      · obtain ⟨x, hx, e⟩ := (ih g).mpr ⟨k, by omega, hg⟩
        exact ⟨x, List.mem_append.mpr (Or.inl hx), e⟩
theorem lsX_mem {D : Dt} (w : WgL D) (wn : dn D ≤ 12) {s : Nat} {o : Int} : o ∈ lsX D s ↔ o ≠ 0 ∧ ∃ k, k < 48 ∧ ∃ g ∈ gpC D s (48 * s + k), o = edg (dwin D).toInt g.toInt := by
  unfold lsX
  rw [List.mem_filter, List.mem_map]
  constructor
  · intro ⟨⟨x, hx, e⟩, h0⟩
    obtain ⟨k, hk, hg⟩ := (gf_mem w wn 48 x.2).mp ⟨x, hx, rfl⟩
    exact ⟨by simpa using h0, k, hk, x.2, hg, e.symm⟩
  · intro ⟨h0, k, hk, g, hg, e⟩
    obtain ⟨x, hx, e2⟩ := (gf_mem w wn 48 g).mpr ⟨k, hk, hg⟩
    exact ⟨⟨x, hx, by rw [e2, e]⟩, by simpa using h0⟩
theorem cnt_mono {p q : Nat → Bool} : ∀ k, (∀ j, j < k → p j = true → q j = true) → cnt p k ≤ cnt q k := by
  intro k
  induction k with
  | zero => intro _; exact Nat.le_refl _
  | succ k ih =>
    intro h
    have h1 := ih (fun j hj => h j (by omega))
    have e1 : cnt p (k + 1) = cnt p k + (if p k then 1 else 0) := rfl
    have e2 : cnt q (k + 1) = cnt q k + (if q k then 1 else 0) := rfl
    rw [e1, e2]
    cases hp : p k with
    | false => simp; omega
    | true => rw [h k (by omega) hp]; simp; omega
theorem ok_mono {D : Dt} {s : Nat} {o o' : Int} (h : ∀ k, k < 48 → ∀ g ∈ gpC D s (48 * s + k), agw (dwin D).toInt o g = true → agw (dwin D).toInt o' g = true) (ok : okO D s o = true) : okO D s o' = true := by
  unfold okO at ok ⊢
  rw [decide_eq_true_iff] at ok ⊢
  have : agr D s o ≤ agr D s o' := by
    apply cnt_mono
    intro j hj ha
    unfold agB at ha ⊢
    rw [List.any_eq_true] at ha ⊢
    obtain ⟨g, hg, e⟩ := ha
    exact ⟨g, hg, h j hj g hg e⟩
  omega
theorem cnt_pos {p : Nat → Bool} : ∀ k, 0 < cnt p k → ∃ j, j < k ∧ p j = true := by
  intro k
  induction k with
  | zero => intro h; exact absurd h (Nat.lt_irrefl _)
  | succ k ih =>
    intro h
    have e1 : cnt p (k + 1) = cnt p k + (if p k then 1 else 0) := rfl
    cases hp : p k with
    | true => exact ⟨k, by omega, hp⟩
    | false =>
      rw [e1, hp] at h
      obtain ⟨j, hj, e⟩ := ih (by simpa using h)
      exact ⟨j, by omega, e⟩
/-- the greatest number among finitely many -/
theorem max_ex {P : Int → Prop} {f : Nat → List Int} : ∀ n, (∀ k, k < n → ∀ x ∈ f k, P x → True) → (∃ k, k < n ∧ ∃ x ∈ f k, P x) → ∃ k, k < n ∧ ∃ x ∈ f k, P x ∧ ∀ k', k' < n → ∀ y ∈ f k', P y → y ≤ x := by
  have one : ∀ l : List Int, (∃ x ∈ l, P x) → ∃ x ∈ l, P x ∧ ∀ y ∈ l, P y → y ≤ x := by
    intro l
    induction l with
    | nil => intro ⟨x, h, _⟩; cases h
    | cons a l ih =>
      intro h
      by_cases c : ∃ x ∈ l, P x
      · obtain ⟨x, hx, px, hm⟩ := ih c
        by_cases pa : P a
        · by_cases d : a ≤ x
          · refine ⟨x, List.mem_cons_of_mem _ hx, px, fun y hy py => ?_⟩
            rcases List.mem_cons.mp hy with e | e
            · rw [e]; exact d
            · exact hm y e py
          · refine ⟨a, List.mem_cons_self .., pa, fun y hy py => ?_⟩
            rcases List.mem_cons.mp hy with e | e
            · rw [e]; exact Int.le_refl _
            · have := hm y e py
              omega
        · refine ⟨x, List.mem_cons_of_mem _ hx, px, fun y hy py => ?_⟩
          rcases List.mem_cons.mp hy with e | e
          · rw [e] at py; exact absurd py pa
          · exact hm y e py
      · obtain ⟨x, hx, px⟩ := h
        have hxa : x = a := by
          rcases List.mem_cons.mp hx with e | e
          · exact e
          · exact absurd ⟨x, e, px⟩ c
        subst hxa
        refine ⟨x, List.mem_cons_self .., px, fun y hy py => ?_⟩
        rcases List.mem_cons.mp hy with e | e
        · rw [e]; exact Int.le_refl _
        · exact absurd ⟨y, e, py⟩ c
  intro n _
  induction n with
  | zero => intro ⟨k, hk, _⟩; omega
  | succ n ih =>
    intro h
    by_cases c1 : ∃ k, k < n ∧ ∃ x ∈ f k, P x
    · obtain ⟨k, hk, x, hx, px, hm⟩ := ih (fun _ _ _ _ _ => trivial) c1
      by_cases c2 : ∃ x ∈ f n, P x
      · obtain ⟨y, hy, py, hn⟩ := one (f n) c2
        by_cases d : y ≤ x
        · refine ⟨k, by omega, x, hx, px, fun k' hk' z hz pz => ?_⟩
          by_cases e : k' = n
          · subst e
            have := hn z hz pz
            omega
          · exact hm k' (by omega) z hz pz
        · refine ⟨n, by omega, y, hy, py, fun k' hk' z hz pz => ?_⟩
          by_cases e : k' = n
          · subst e
            exact hn z hz pz
          · have := hm k' (by omega) z hz pz
            omega
      · refine ⟨k, by omega, x, hx, px, fun k' hk' z hz pz => ?_⟩
        by_cases e : k' = n
        · subst e
          exact absurd ⟨z, hz, pz⟩ c2
        · exact hm k' (by omega) z hz pz
    · obtain ⟨k, hk, x, hx, px⟩ := h
      have e : k = n := by
        by_cases e : k = n
        · exact e
        · exact absurd ⟨k, by omega, x, hx, px⟩ c1
      subst e
      obtain ⟨y, hy, py, hn⟩ := one (f k) ⟨x, hx, px⟩
      refine ⟨k, by omega, y, hy, py, fun k' hk' z hz pz => ?_⟩
      by_cases e : k' = k
      · subst e
        exact hn z hz pz
      · exact absurd ⟨k', by omega, z, hz, pz⟩ c1
theorem agw_iff {w o : Int} {g : Int64} : agw w o g = true ↔ g.toInt - o ≤ w ∧ o - g.toInt ≤ w := by unfold agw; rw [decide_eq_true_iff]
/-- for each offset that most agree by there is an inner edge on the way to 0 -/
theorem inner {D : Dt} (w : WgL D) (wn : dn D ≤ 12) (w0 : 0 ≤ (dwin D).toInt) {s : Nat} {o : Int} (h0 : okO D s 0 = false) (ok : okO D s o = true) : ∃ o' ∈ lsX D s, okO D s o' = true ∧ ((0 < o ∧ 0 < o' ∧ o' ≤ o) ∨ (o < 0 ∧ o' < 0 ∧ o ≤ o')) := by
  have hone : o ≠ 0 := fun z => by rw [z, h0] at ok; cases ok
  -- some gap agrees
  have some_ : ∃ k, k < 48 ∧ ∃ g ∈ gpC D s (48 * s + k), agw (dwin D).toInt o g = true := by
    have : 0 < agr D s o := by
      unfold okO at ok
      rw [decide_eq_true_iff] at ok
      omega
    obtain ⟨j, hj, e⟩ := cnt_pos 48 this
    have e : agB D s (48 * s + j) o = true := e
    unfold agB at e
    rw [List.any_eq_true] at e
    obtain ⟨g, hg, e⟩ := e
    exact ⟨j, hj, g, hg, e⟩
  by_cases hp : 0 < o
  · obtain ⟨k, hk, x, hx, px, hm⟩ := max_ex (P := fun x => x - o ≤ (dwin D).toInt ∧ o - x ≤ (dwin D).toInt) (f := fun k => (gpC D s (48 * s + k)).map Int64.toInt) 48 (fun _ _ _ _ _ => trivial) (by
      obtain ⟨k, hk, g, hg, e⟩ := some_
      exact ⟨k, hk, g.toInt, List.mem_map.mpr ⟨g, hg, rfl⟩, agw_iff.mp e⟩)
    obtain ⟨g, hg, rfl⟩ := List.mem_map.mp hx
    have all : ∀ k', k' < 48 → ∀ g' ∈ gpC D s (48 * s + k'), agw (dwin D).toInt o g' = true → g'.toInt ≤ g.toInt := fun k' hk' g' hg' e => hm k' hk' g'.toInt (List.mem_map.mpr ⟨g', hg', rfl⟩) (agw_iff.mp e)
    by_cases c : g.toInt - (dwin D).toInt ≤ 0
    · have : okO D s 0 = true := ok_mono (fun k' hk' g' hg' e => by
        have a := all k' hk' g' hg' e
        have b := agw_iff.mp e
        exact agw_iff.mpr ⟨by omega, by omega⟩) ok
      rw [h0] at this
      cases this
    · refine ⟨g.toInt - (dwin D).toInt, (lsX_mem w wn).mpr ⟨by omega, k, hk, g, hg, ?_⟩, ?_, Or.inl ⟨hp, by omega, by omega⟩⟩
      · unfold edg
        rw [if_pos (by omega)]
      · exact ok_mono (fun k' hk' g' hg' e => by
          have a := all k' hk' g' hg' e
          have b := agw_iff.mp e
          exact agw_iff.mpr ⟨by omega, by omega⟩) ok
  · obtain ⟨k, hk, x, hx, px, hm⟩ := max_ex (P := fun x => -x - o ≤ (dwin D).toInt ∧ o + x ≤ (dwin D).toInt) (f := fun k => (gpC D s (48 * s + k)).map (fun g => -g.toInt)) 48 (fun _ _ _ _ _ => trivial) (by
      obtain ⟨k, hk, g, hg, e⟩ := some_
      have e := agw_iff.mp e
      exact ⟨k, hk, -g.toInt, List.mem_map.mpr ⟨g, hg, rfl⟩, by omega, by omega⟩)
    obtain ⟨g, hg, rfl⟩ := List.mem_map.mp hx
    have all : ∀ k', k' < 48 → ∀ g' ∈ gpC D s (48 * s + k'), agw (dwin D).toInt o g' = true → g.toInt ≤ g'.toInt := fun k' hk' g' hg' e => by
      have e := agw_iff.mp e
      have := hm k' hk' (-g'.toInt) (List.mem_map.mpr ⟨g', hg', rfl⟩) ⟨by omega, by omega⟩
      omega
    by_cases c : 0 ≤ g.toInt + (dwin D).toInt
    · have : okO D s 0 = true := ok_mono (fun k' hk' g' hg' e => by
        have a := all k' hk' g' hg' e
        have b := agw_iff.mp e
        exact agw_iff.mpr ⟨by omega, by omega⟩) ok
      rw [h0] at this
      cases this
    · refine ⟨g.toInt + (dwin D).toInt, (lsX_mem w wn).mpr ⟨by omega, k, hk, g, hg, ?_⟩, ?_, Or.inr ⟨by omega, by omega, by omega⟩⟩
      · unfold edg
        rw [if_neg (by omega), if_pos (by omega)]
      · exact ok_mono (fun k' hk' g' hg' e => by
          have a := all k' hk' g' hg' e
          have b := agw_iff.mp e
          exact agw_iff.mpr ⟨by omega, by omega⟩) ok
theorem off_eq {D : Dt} (w : WgL D) (wn : dn D ≤ 12) (wP : WgP D) (s : Nat) : offX D s = offM D s := by
  have w0 := wP.1.1
  unfold offX offM
  cases h0 : okO D s 0 with
  | true => rw [if_pos rfl, if_pos rfl]
  | false =>
    rw [if_neg (by decide), if_neg (by decide)]
    have sub : ∀ o ∈ lsX D s, o ∈ lsM D s 48 := fun o ho => by
      obtain ⟨h1, k, hk, g, hg, e⟩ := (lsX_mem w wn).mp ho
      refine (lsM_mem 48 o).mpr ⟨k, hk, g, hg, ?_⟩
      unfold edg at e
      split at e
      · exact Or.inl e
      · split at e
        · exact Or.inr e
        · exact absurd e h1
    obtain ⟨x1, x2⟩ := scan_spec (okO D s) (lsX D s) none (fun x hx => by cases hx)
    obtain ⟨m1, m2⟩ := scan_spec (okO D s) (lsM D s 48) none (fun x hx => by cases hx)
    cases hm : (lsM D s 48).foldl (scS (okO D s)) none with
    | none =>
      have := (m1.mp hm).2
      have : (lsX D s).foldl (scS (okO D s)) none = none := x1.mpr ⟨rfl, fun o ho => this o (sub o ho)⟩
      rw [this]
    | some b =>
      obtain ⟨b1, b2, b3, _⟩ := m2 b hm
      obtain ⟨o', ho', ok', hh⟩ := inner w wn w0 h0 b1
      have e := b3 o' (sub o' ho') ok'
      have eo : o' = b := by
        unfold nrB at e
        rw [decide_eq_false_iff_not] at e
        omega
      subst eo
      cases hx : (lsX D s).foldl (scS (okO D s)) none with
      | none =>
        have := (x1.mp hx).2 o' ho'
        rw [ok'] at this
        cases this
      | some a =>
        obtain ⟨a1, a2, a3, _⟩ := x2 a hx
        have q1 := a3 o' ho' ok'
        have ha : a ∈ lsX D s := by
          rcases a2 with h | h
          · exact h
          · cases h
        have q2 := b3 a (sub a ha) a1
        unfold nrB at q1 q2
        rw [decide_eq_false_iff_not] at q1 q2
        show a = o'
        omega
