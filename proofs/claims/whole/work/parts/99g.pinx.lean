/-! ===== the class: what stands while it is made ===== -/
def upG (A : Nat → Nat) (b n : Nat) (r : Nat → Nat) : Nat → Nat := fun j => if b ≤ j ∧ j < b + n then r (j - b) else A j
theorem upG_in {A r : Nat → Nat} {b n j : Nat} (h : j < n) : upG A b n r (b + j) = r j := by
  unfold upG
  rw [if_pos (by omega), Nat.add_sub_cancel_left]
theorem upG_out {A r : Nat → Nat} {b n i : Nat} (h : ∀ j, j < n → i ≠ b + j) : upG A b n r i = A i := by
  unfold upG
  rw [if_neg (fun z => h (i - b) (by omega) (by omega))]
def InX (h : IH) (A : Nat → Nat) (P : List Nat) (R G : List (Nat × Nat × Nat)) (v8 v13 : Bool) : Prop := (∀ i ∈ P, KX i ≠ 0 ∧ kd h (A i) = KX i ∧ (20 ≤ KX i → ln h (A i) = LX i)) ∧ (∀ i ∈ P, ∀ j ∈ P, A i = A j → i = j) ∧ (∀ t ∈ R, t.2.1 ∈ P ∧ t.2.2 ∈ P ∧ fR h t.1 (A t.2.1) = some (A t.2.2)) ∧ (∀ g ∈ G, g.1 ∈ P ∧ ∀ j, j < g.2.2 → g.2.1 + j ∈ P ∧ rR h (A g.1) j = some (A (g.2.1 + j))) ∧ (∀ i ∈ P, i < 90 → KX i < 20 → ∀ f, f ≠ 3 → f ≠ 301 → fI h f (A i) = 0) ∧ (∀ i ∈ P, i < 90 → i ≠ 9 → KX i = 20 → ∀ j, rI h (A i) j = 0) ∧ (v8 = true → 8 ∈ P ∧ 9 ∈ P ∧ fI h 301 (A 8) = 1 ∧ rI h (A 9) 0 = 1) ∧ (v13 = true → 13 ∈ P ∧ fI h 3 (A 13) = 60)
section
variable {h h' : IH} {A : Nat → Nat} {P : List Nat} {R G : List (Nat × Nat × Nat)} {v8 v13 : Bool}
theorem InX.lv (I : InX h A P R G v8 v13) {i : Nat} (hi : i ∈ P) : kd h (A i) ≠ 0 := by
  rw [(I.1 i hi).2.1]
  exact (I.1 i hi).1
theorem InX.keep {X : Nat → Prop} (I : InX h A P R G v8 v13) (k : Kx X h h') (hX : ∀ i ∈ P, X (A i) → 90 ≤ i ∧ (∀ t ∈ R, t.2.1 ≠ i) ∧ ∀ g ∈ G, g.1 ≠ i) : InX h' A P R G v8 v13 := by
  have lv : ∀ i ∈ P, kd h (A i) ≠ 0 := fun i hi => I.lv hi
  obtain ⟨a1, a2, a3, a4, a5, a6, a7, a8⟩ := I
  refine ⟨fun i hi => ?_, a2, fun t ht => ?_, fun g hg => ?_, fun i hi h90 hk f f1 f2 => ?_, fun i hi h90 h9 hk j => ?_, fun z => ?_, fun z => ?_⟩
  · have q := k (A i) (lv i hi)
    rw [q.1, q.2.1]
    exact a1 i hi
  · obtain ⟨b1, b2, b3⟩ := a3 t ht
    have q := k (A t.2.1) (lv _ b1)
    refine ⟨b1, b2, ?_⟩
    rw [(q.2.2 (fun z => (hX _ b1 z).2.1 t ht rfl)).2.2.1]
    exact b3
  · obtain ⟨b1, b2⟩ := a4 g hg
    have q := k (A g.1) (lv _ b1)
    refine ⟨b1, fun j hj => ⟨(b2 j hj).1, ?_⟩⟩
    rw [(q.2.2 (fun z => (hX _ b1 z).2.2 g hg rfl)).2.2.2.2.2]
    exact (b2 j hj).2
  · have q := k (A i) (lv i hi)
    rw [(q.2.2 (fun z => by have := (hX i hi z).1; omega)).1 f]
    exact a5 i hi h90 hk f f1 f2
  · have q := k (A i) (lv i hi)
    rw [(q.2.2 (fun z => by have := (hX i hi z).1; omega)).2.2.2.1]
    exact a6 i hi h90 h9 hk j
  · obtain ⟨b1, b2, b3, b4⟩ := a7 z
    have q1 := k (A 8) (lv 8 b1)
    have q2 := k (A 9) (lv 9 b2)
    refine ⟨b1, b2, ?_, ?_⟩
    · rw [(q1.2.2 (fun z => by have := (hX 8 b1 z).1; omega)).1]; exact b3
    · rw [(q2.2.2 (fun z => by have := (hX 9 b2 z).1; omega)).2.2.2.1]; exact b4
  · obtain ⟨b1, b2⟩ := a8 z
    have q1 := k (A 13) (lv 13 b1)
    refine ⟨b1, ?_⟩
    rw [(q1.2.2 (fun z => by have := (hX 13 b1 z).1; omega)).1]
    exact b2
theorem InX.addR (I : InX h A P R G v8 v13) {b n : Nat} {r : Nat → Nat} (hb : ∀ j, j < n → ¬ b + j ∈ P) (hq : ∀ j, j < n → ∀ i ∈ P, A i ≠ r j) (inj : ∀ i j, i < n → j < n → r i = r j → i = j) (k1 : ∀ j, j < n → KX (b + j) ≠ 0 ∧ kd h (r j) = KX (b + j) ∧ (20 ≤ KX (b + j) → ln h (r j) = LX (b + j))) (k4 : ∀ j, j < n → b + j < 90 → KX (b + j) < 20 → ∀ f, fI h f (r j) = 0) (k5 : ∀ j, j < n → b + j < 90 → KX (b + j) = 20 → ∀ i, rI h (r j) i = 0) : InX h (upG A b n r) ((List.range n).map (fun j => b + j) ++ P) R G v8 v13 := by
  obtain ⟨a1, a2, a3, a4, a5, a6, a7, a8⟩ := I
  have old : ∀ i ∈ P, upG A b n r i = A i := fun i hi => upG_out (fun j hj z => hb j hj (z ▸ hi))
  have sp : ∀ i, i ∈ (List.range n).map (fun j => b + j) ++ P → (∃ j, j < n ∧ i = b + j) ∨ i ∈ P := fun i hi => by
    rcases List.mem_append.mp hi with z | z
    · obtain ⟨j, hj, e⟩ := List.mem_map.mp z
      exact Or.inl ⟨j, List.mem_range.mp hj, e.symm⟩
    · exact Or.inr z
  have inP : ∀ i, i ∈ P → i ∈ (List.range n).map (fun j => b + j) ++ P := fun i hi => List.mem_append.mpr (Or.inr hi)
  refine ⟨fun i hi => ?_, fun i hi j hj e => ?_, fun t ht => ?_, fun g hg => ?_, fun i hi h90 hk f f1 f2 => ?_, fun i hi h90 h9 hk j => ?_, fun z => ?_, fun z => ?_⟩
  · rcases sp i hi with ⟨j, hj, rfl⟩ | z
    · rw [upG_in hj]; exact k1 j hj
    · rw [old i z]; exact a1 i z
  · rcases sp i hi with ⟨i', hi', rfl⟩ | z
    · rcases sp j hj with ⟨j', hj', rfl⟩ | y
      · rw [upG_in hi', upG_in hj'] at e
        rw [inj i' j' hi' hj' e]
      · rw [upG_in hi', old j y] at e
        exact absurd e.symm (hq i' hi' j y)
    · rcases sp j hj with ⟨j', hj', rfl⟩ | y
      · rw [upG_in hj', old i z] at e
        exact absurd e (hq j' hj' i z)
      · rw [old i z, old j y] at e
        exact a2 i z j y e
  · obtain ⟨b1, b2, b3⟩ := a3 t ht
    refine ⟨inP _ b1, inP _ b2, ?_⟩
    rw [old _ b1, old _ b2]
    exact b3
  · obtain ⟨b1, b2⟩ := a4 g hg
    refine ⟨inP _ b1, fun j hj => ⟨inP _ (b2 j hj).1, ?_⟩⟩
    rw [old _ b1, old _ (b2 j hj).1]
    exact (b2 j hj).2
  · rcases sp i hi with ⟨j, hj, rfl⟩ | z
    · rw [upG_in hj]; exact k4 j hj h90 hk f
    · rw [old i z]; exact a5 i z h90 hk f f1 f2
  · rcases sp i hi with ⟨j', hj, rfl⟩ | z
    · rw [upG_in hj]; exact k5 j' hj h90 hk j
    · rw [old i z]; exact a6 i z h90 h9 hk j
  · obtain ⟨b1, b2, b3, b4⟩ := a7 z
    refine ⟨inP _ b1, inP _ b2, ?_, ?_⟩
    · rw [old _ b1]; exact b3
    · rw [old _ b2]; exact b4
  · obtain ⟨b1, b2⟩ := a8 z
    refine ⟨inP _ b1, ?_⟩
    rw [old _ b1]; exact b2
theorem InX.fresh (I : InX h A P R G v8 v13) {q : Nat} (hq : kd h q = 0) : ∀ i ∈ P, A i ≠ q := fun i hi z => I.lv hi (by rw [z]; exact hq)
theorem InX.nO (I : InX h A P R G v8 v13) {i c q : Nat} (hq : kd h q = 0) (hi : ¬ i ∈ P) (hc : KX i = c + 1) (h20 : c + 1 < 20) : InX (newO h c q) (upG A i 1 (fun _ => q)) (i :: P) R G v8 v13 := by
  have I1 := I.keep (Kx.nO (X := no1) (c := c) hq) (fun _ _ z => z.elim)
  exact I1.addR (b := i) (n := 1) (r := fun _ => q) (fun j hj => by rw [show j = 0 by omega]; exact hi) (fun _ _ => I.fresh hq) (fun i j h1 h2 _ => by omega) (fun j hj => by
    rw [show i + j = i by omega]
    exact ⟨by omega, by show va_up (kd h) q (c + 1) q = KX i; rw [va_up_s, hc], fun z => by omega⟩) (fun j hj _ _ f => if_pos rfl) (fun j hj _ hk => by rw [show i + j = i by omega] at hk; omega)
theorem InX.nA (I : InX h A P R G v8 v13) {i k n q : Nat} (hq : kd h q = 0) (hi : ¬ i ∈ P) (hk : KX i = 20 + k) (hl : LX i = n) : InX (newA h k n q) (upG A i 1 (fun _ => q)) (i :: P) R G v8 v13 := by
  have I1 := I.keep (Kx.nA (X := no1) (k := k) (n := n) hq) (fun _ _ z => z.elim)
  exact I1.addR (b := i) (n := 1) (r := fun _ => q) (fun j hj => by rw [show j = 0 by omega]; exact hi) (fun _ _ => I.fresh hq) (fun i j h1 h2 _ => by omega) (fun j hj => by
    rw [show i + j = i by omega]
    exact ⟨by omega, by show va_up (kd h) q (20 + k) q = KX i; rw [va_up_s, hk], fun _ => by show va_up (ln h) q n q = LX i; rw [va_up_s, hl]⟩) (fun j hj _ hk' => by rw [show i + j = i by omega] at hk'; omega) (fun j hj _ _ f => if_pos rfl)
theorem InX.wR (I : InX h A P R G v8 v13) {f i j : Nat} (hi : i ∈ P) (hj : j ∈ P) (hf : ∀ t ∈ R, ¬ (t.1 = f ∧ t.2.1 = i)) : InX (wfR h f (A i) (some (A j))) A P ((f, i, j) :: R) G v8 v13 := by
  obtain ⟨a1, a2, a3, a4, a5, a6, a7, a8⟩ := I
  refine ⟨a1, a2, fun t ht => ?_, a4, a5, a6, a7, a8⟩
  rcases List.mem_cons.mp ht with z | z
  · subst z
    exact ⟨hi, hj, u2_same⟩
  · obtain ⟨b1, b2, b3⟩ := a3 t z
    refine ⟨b1, b2, ?_⟩
    by_cases c1 : t.1 = f
    · have c2 : A t.2.1 ≠ A i := fun y => hf t z ⟨c1, a2 _ b1 _ hi y⟩
      exact (u2_ne2 c2).trans b3
    · exact (u2_ne1 c1).trans b3
theorem InX.putR {c k i j a b : Nat} (I : InX h A P R G v8 v13) (hi : i ∈ P) (hj : j ∈ P) (ea : A i = a) (eb : A j = b) (hc : KX i = c + 1) (hf : ∀ t ∈ R, ¬ (t.1 = 100 * c + k ∧ t.2.1 = i)) {C : IH → Prop} (nx : ∀ h', InX h' A P ((100 * c + k, i, j) :: R) G v8 v13 → C h') : bP (pR h c k (some a) (some b)) C := by
  subst ea eb
  exact bP_ok (pR_ok (c := c) k (some (A j)) ((I.1 i hi).2.1.trans hc)) (nx _ (I.wR hi hj hf))
theorem InX.getR {c k i j a b : Nat} (I : InX h A P R G v8 v13) (ht : (100 * c + k, i, j) ∈ R) (ea : A i = a) (eb : A j = b) (hc : KX i = c + 1) {C : Option Nat → Prop} (nx : C (some b)) : bP (gR h c k (some a)) C := by
  subst ea eb
  obtain ⟨b1, b2, b3⟩ := I.2.2.1 _ ht
  refine bP_ok ?_ nx
  rw [gR_ok (c := c) k ((I.1 i b1).2.1.trans hc)]
  exact congrArg some b3
theorem KxnG {X : Nat → Prop} {n k q : Nat} {r : Nat → Nat} (hq : kd h q = 0) (hr : ∀ i, i < n → kd h (r i) = 0 ∧ r i ≠ q) : Kx X h (newG h n k q r) := fun a ha => by
  have n1 : a ≠ q := fun z => ha (by rw [z]; exact hq)
  have n2 : ¬ a ∈ (List.range n).map r := fun z => by
    obtain ⟨i, hi, e⟩ := List.mem_map.mp z
    rw [← e] at ha
    exact ha (hr i (List.mem_range.mp hi)).1
  refine ⟨?_, ?_, fun _ => ⟨fun _ => rfl, fun _ => rfl, fun _ => rfl, ?_, rfl, ?_⟩⟩
  · show (if a = q then 26 else if a ∈ (List.range n).map r then 20 else kd h a) = kd h a
    rw [if_neg n1, if_neg n2]
  · show (if a = q then n else if a ∈ (List.range n).map r then k else ln h a) = ln h a
    rw [if_neg n1, if_neg n2]
  · funext y
    show (if a ∈ (List.range n).map r then 0 else rI h a y) = rI h a y
    rw [if_neg n2]
  · funext y
    show (if a = q then (if y < n then some (r y) else none) else rR h a y) = rR h a y
    rw [if_neg n1]
theorem InX.nG (I : InX h A P R G v8 v13) {i b n k q : Nat} {r : Nat → Nat} (hq : kd h q = 0) (hr : ∀ i, i < n → kd h (r i) = 0 ∧ r i ≠ q) (ri : ∀ i j, i < n → j < n → r i = r j → i = j) (hi : ¬ i ∈ P) (hk : KX i = 26) (hl : LX i = n) (hb : ∀ j, j < n → ¬ b + j ∈ i :: P) (kb : ∀ j, j < n → KX (b + j) = 20 ∧ LX (b + j) = k) : InX (newG h n k q r) (upG (upG A i 1 (fun _ => q)) b n r) ((List.range n).map (fun j => b + j) ++ (i :: P)) R ((i, b, n) :: G) v8 v13 := by
  have I1 := I.keep (KxnG (X := no1) (k := k) hq hr) (fun _ _ z => z.elim)
  have I2 : InX (newG h n k q r) (upG A i 1 (fun _ => q)) (i :: P) R G v8 v13 := I1.addR (b := i) (n := 1) (r := fun _ => q) (fun j hj => by rw [show j = 0 by omega]; exact hi) (fun _ _ => I.fresh hq) (fun i j h1 h2 _ => by omega) (fun j hj => by
    rw [show i + j = i by omega]
    exact ⟨by omega, by show (if q = q then 26 else _) = KX i; rw [if_pos rfl, hk], fun _ => by show (if q = q then n else _) = LX i; rw [if_pos rfl, hl]⟩) (fun j hj _ hk' => by rw [show i + j = i by omega] at hk'; omega) (fun j hj _ hk' => by rw [show i + j = i by omega] at hk'; omega)
  have mem : ∀ j, j < n → r j ∈ (List.range n).map r := fun j hj => List.mem_map.mpr ⟨j, List.mem_range.mpr hj, rfl⟩
  have I3 := I2.addR (b := b) (n := n) (r := r) hb (fun j hj a ha => by
    rcases List.mem_cons.mp ha with z | z
    · subst z
      have e : upG A a 1 (fun _ => q) (a + 0) = q := upG_in (by omega)
      rw [Nat.add_zero] at e
      rw [e]
      exact fun y => (hr j hj).2 y.symm
    · have e : upG A i 1 (fun _ => q) a = A a := upG_out (fun j' hj' y => hi (by rw [show i = a by omega]; exact z))
      rw [e]
      exact I.fresh (hr j hj).1 a z) ri (fun j hj => by
    obtain ⟨c1, c2⟩ := kb j hj
    refine ⟨by omega, ?_, fun _ => ?_⟩
    · show (if r j = q then 26 else if r j ∈ (List.range n).map r then 20 else kd h (r j)) = KX (b + j)
      rw [if_neg (hr j hj).2, if_pos (mem j hj), c1]
    · show (if r j = q then n else if r j ∈ (List.range n).map r then k else ln h (r j)) = LX (b + j)
      rw [if_neg (hr j hj).2, if_pos (mem j hj), c2]) (fun j hj _ hk' => by have := (kb j hj).1; omega) (fun j hj _ _ f => by
    show (if r j ∈ (List.range n).map r then 0 else rI h (r j) f) = 0
    rw [if_pos (mem j hj)])
  obtain ⟨a1, a2, a3, a4, a5, a6, a7, a8⟩ := I3
  refine ⟨a1, a2, a3, fun g hg => ?_, a5, a6, a7, a8⟩
  rcases List.mem_cons.mp hg with z | z
  · subst z
    have ei : upG (upG A i 1 (fun _ => q)) b n r i = q := by
      rw [upG_out (fun j hj y => hb j hj (by rw [← y]; exact List.mem_cons_self))]
      have e : upG A i 1 (fun _ => q) (i + 0) = q := upG_in (by omega)
      exact e
    refine ⟨List.mem_append.mpr (Or.inr List.mem_cons_self), fun j hj => ⟨List.mem_append.mpr (Or.inl (List.mem_map.mpr ⟨j, List.mem_range.mpr hj, rfl⟩)), ?_⟩⟩
    show rR (newG h n k q r) (upG (upG A i 1 (fun _ => q)) b n r i) j = some (upG (upG A i 1 (fun _ => q)) b n r (b + j))
    rw [ei, upG_in hj]
    show (if q = q then (if j < n then some (r j) else none) else rR h q j) = some (r j)
    rw [if_pos rfl, if_pos hj]
  · exact a4 g z
theorem InX.log {N : Nat} (hN : 2000 ≤ N) {q : Nat} (I : InX h A P R G v8 v13) (h236 : 236 ∈ P) (ea : A 236 = q) (hR : ∀ t ∈ R, t.2.1 ≠ 236) (hG : ∀ g ∈ G, g.1 ≠ 236) (h336 : ¬ 336 ∈ P) (hes : ∀ j, j < 16 → ¬ 1576 + j ∈ 336 :: P) (z0 : fI h 401 q = 0) {C : IH → Prop} (nx : ∀ h' rw es, InX h' (upG (upG A 336 1 (fun _ => rw)) 1576 16 es) ((List.range 16).map (fun j => 1576 + j) ++ (336 :: P)) ((400, 236, 336) :: R) ((336, 1576, 16) :: G) v8 v13 → C h') : s_X4_initP N h q C := by
  subst ea
  have k5 : kd h (A 236) = 5 := (I.1 236 h236).2.1
  refine logInit hN k5 z0 (fun h' rw_ es kx nl => nx h' rw_ es ?_)
  obtain ⟨n1, n2, n3, n4, n5, n6, n7, n8, n9⟩ := nl
  have I1 := I.keep kx (fun i hi z => by
    have e : i = 236 := I.2.1 i hi 236 h236 z
    subst e
    exact ⟨by omega, hR, hG⟩)
  have I2 : InX h' (upG A 336 1 (fun _ => rw_)) (336 :: P) R G v8 v13 := I1.addR (b := 336) (n := 1) (r := fun _ => rw_) (fun j hj => by rw [show j = 0 by omega]; exact h336) (fun _ _ => I.fresh n7) (fun i j h1 h2 _ => by omega) (fun j hj => by
    rw [show 336 + j = 336 by omega]
    exact ⟨by decide, n3.trans (by decide), fun _ => n4.trans (by decide)⟩) (fun j hj h90 => by omega) (fun j hj h90 => by omega)
  have o336 : upG A 336 1 (fun _ => rw_) 336 = rw_ := upG_in (j := 0) (by omega)
  have old : ∀ a ∈ P, upG A 336 1 (fun _ => rw_) a = A a := fun a ha => upG_out (fun j hj y => h336 (by rw [show 336 = a by omega]; exact ha))
  have kes : ∀ j, j < 16 → KX (1576 + j) = 3 := by decide
  have I3 := I2.addR (b := 1576) (n := 16) (r := es) hes (fun j hj a ha => by
    rcases List.mem_cons.mp ha with z | z
    · subst z
      rw [o336]
      exact fun y => by have := (n5 j hj).2.1; rw [← y, n3] at this; omega
    · rw [old a z]
      exact I.fresh (n5 j hj).2.2 a z) n6 (fun j hj => by
    have := kes j hj
    exact ⟨by omega, (n5 j hj).2.1.trans this.symm, fun z => by omega⟩) (fun j hj h90 => by omega) (fun j hj h90 => by omega)
  have e236 : upG (upG A 336 1 (fun _ => rw_)) 1576 16 es 236 = A 236 := (upG_out (fun j hj y => by omega)).trans (old 236 h236)
  have e336 : upG (upG A 336 1 (fun _ => rw_)) 1576 16 es 336 = rw_ := (upG_out (fun j hj y => by omega)).trans o336
  obtain ⟨a1, a2, a3, a4, a5, a6, a7, a8⟩ := I3
  have m336 : 336 ∈ (List.range 16).map (fun j => 1576 + j) ++ (336 :: P) := List.mem_append.mpr (Or.inr List.mem_cons_self)
  refine ⟨a1, a2, fun t ht => ?_, fun g hg => ?_, a5, a6, a7, a8⟩
  · rcases List.mem_cons.mp ht with z | z
    · subst z
      refine ⟨List.mem_append.mpr (Or.inr (List.mem_cons_of_mem _ h236)), m336, ?_⟩
      show fR h' 400 (upG (upG A 336 1 (fun _ => rw_)) 1576 16 es 236) = some (upG (upG A 336 1 (fun _ => rw_)) 1576 16 es 336)
      rw [e236, e336]
      exact n2
    · exact a3 t z
  · rcases List.mem_cons.mp hg with z | z
    · subst z
      refine ⟨m336, fun j hj => ⟨List.mem_append.mpr (Or.inl (List.mem_map.mpr ⟨j, List.mem_range.mpr hj, rfl⟩)), ?_⟩⟩
      show rR h' (upG (upG A 336 1 (fun _ => rw_)) 1576 16 es 336) j = some (upG (upG A 336 1 (fun _ => rw_)) 1576 16 es (1576 + j))
      rw [e336, upG_in hj]
      exact (n5 j hj).1
    · exact a4 g z
theorem InX.codes (I : InX h A P R G false v13) {a b : Nat} (h8 : 8 ∈ P) (h9 : 9 ∈ P) (ea : A 8 = a) (eb : A 9 = b) (ht : (300, 8, 9) ∈ R) {C : IH → Prop} (nx : ∀ h', InX h' A P R G true v13 → C h') : bP (gR h 3 0 (some a)) fun v13 => bP (sI h v13 0 1) fun h14 => bP (pI h14 3 1 (some a) 1) fun h15 => C h15 := by
  subst ea eb
  have k8 : kd h (A 8) = 4 := (I.1 8 h8).2.1
  have k9 : kd h (A 9) = 20 := (I.1 9 h9).2.1
  have l9 : ln h (A 9) = 30 := (I.1 9 h9).2.2 (by decide)
  have s1 : sI h (some (A 9)) 0 1 = some (setI h (A 9) (upd (rI h (A 9)) 0 1)) := sI_ok (j := 0) 1 k9 (by omega) (by omega)
  refine InX.getR (c := 3) (k := 0) I ht rfl rfl (by decide) (bP_ok s1 (bP_ok (pI_ok (c := 3) 1 1 (show kd (setI h (A 9) (upd (rI h (A 9)) 0 1)) (A 8) = 3 + 1 from k8)) (nx _ ?_)))
  obtain ⟨a1, a2, a3, a4, a5, a6, a7, a8⟩ := I
  refine ⟨a1, a2, a3, a4, fun i hi h90 hk f f1 f2 => ?_, fun i hi h90 h9' hk j => ?_, fun _ => ⟨h8, h9, ?_, ?_⟩, fun z => ?_⟩
  · rw [fI_wfI_ne _ _ f2]
    exact a5 i hi h90 hk f f1 f2
  · rw [rI_wfI, rI_setI_ne _ _ (fun z => h9' (a2 i hi 9 h9 z))]
    exact a6 i hi h90 h9' hk j
  · exact fI_wfI _ _ _ _
  · rw [rI_wfI, rI_setI]
    exact upd_s _ _ _
  · refine ⟨(a8 z).1, ?_⟩
    rw [fI_wfI_ne _ _ (by decide)]
    exact (a8 z).2
theorem InX.win (I : InX h A P R G v8 false) {a : Nat} (h13 : 13 ∈ P) (ea : A 13 = a) {C : IH → Prop} (nx : ∀ h', InX h' A P R G v8 true → C h') : bP (pI h 0 3 (some a) 60) C := by
  subst ea
  have k13 : kd h (A 13) = 1 := (I.1 13 h13).2.1
  refine bP_ok (pI_ok (c := 0) 3 60 k13) (nx _ ?_)
  obtain ⟨a1, a2, a3, a4, a5, a6, a7, a8⟩ := I
  refine ⟨a1, a2, a3, a4, fun i hi h90 hk f f1 f2 => ?_, a6, fun z => ?_, fun _ => ⟨h13, fI_wfI _ _ _ _⟩⟩
  · rw [fI_wfI_ne _ _ f1]
    exact a5 i hi h90 hk f f1 f2
  · obtain ⟨b1, b2, b3, b4⟩ := a7 z
    refine ⟨b1, b2, ?_, b4⟩
    rw [fI_wfI_ne _ _ (by decide)]
    exact b3
end
