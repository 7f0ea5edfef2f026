/-! ===== distances ===== -/
/-- the squares' distance, rounded down -/
def isq (v : Nat) : Nat → Nat
  | 0 => 0
  | r + 1 => if (isq v r + 1) * (isq v r + 1) ≤ v then isq v r + 1 else isq v r
theorem isq_lo (v : Nat) : ∀ r, isq v r * isq v r ≤ v := by
  intro r
  induction r with
  | zero => exact Nat.zero_le _
  | succ r ih =>
    unfold isq
    split
    · assumption
    · exact ih
theorem sq_mono {a b : Nat} (h : a ≤ b) : a * a ≤ b * b := Nat.mul_le_mul h h
theorem isq_hi (v : Nat) : ∀ r, v < (r + 1) * (r + 1) → v < (isq v r + 1) * (isq v r + 1) := by
  intro r
  induction r with
  | zero => intro h; exact h
  | succ r ih =>
    intro h
    unfold isq
    by_cases c : (isq v r + 1) * (isq v r + 1) ≤ v
    · rw [if_pos c]
      have le : isq v r ≤ r := by
        have : ∀ r, isq v r ≤ r := by
          intro r
          induction r with
          | zero => exact Nat.le_refl _
          | succ r ih =>
            unfold isq
            split <;> omega
        exact this r
      by_cases d : v < (r + 1) * (r + 1)
      · exact absurd (ih d) (by omega)
      · -- then isq v r = r
        have e : isq v r = r := by
          by_cases z : isq v r = r
          · exact z
          · have hle : ∀ r, (r + 1) * (r + 1) ≤ v → isq v r = r := by
              intro r
              induction r with
              | zero => intro _; rfl
              | succ r ih2 =>
                intro hq
                unfold isq
                have h1 : (r + 1) * (r + 1) ≤ v := Nat.le_trans (sq_mono (by omega)) hq
                rw [ih2 h1, if_pos h1]
            exact hle r (by omega)
        rw [e]
        exact h
    · rw [if_neg c]
      omega
theorem sq_uniq {v a b : Nat} (h1 : a * a ≤ v) (h2 : v < (a + 1) * (a + 1)) (h3 : b * b ≤ v) (h4 : v < (b + 1) * (b + 1)) : a = b := by
  by_cases c : a < b
  · have := sq_mono (show a + 1 ≤ b by omega)
    omega
  · by_cases d : b < a
    · have := sq_mono (show b + 1 ≤ a by omega)
      omega
    · omega
def sqD (D : Dt) (s t : Nat) : Nat := ((dX D s).toInt - (dX D t).toInt).natAbs * ((dX D s).toInt - (dX D t).toInt).natAbs + ((dY D s).toInt - (dY D t).toInt).natAbs * ((dY D s).toInt - (dY D t).toInt).natAbs
def dst (D : Dt) (s t : Nat) : Nat := isq (sqD D s t) 200
theorem sqD_le {D : Dt} (w : WgS D) {s t : Nat} (hs : s < dn D) (ht : t < dn D) : sqD D s t ≤ 19602 := by
  obtain ⟨_, _, ⟨a1, a2⟩, ⟨a3, a4⟩, _⟩ := w.2.1 s hs
  obtain ⟨_, _, ⟨b1, b2⟩, ⟨b3, b4⟩, _⟩ := w.2.1 t ht
  have h1 : ((dX D s).toInt - (dX D t).toInt).natAbs ≤ 99 := by omega
  have h2 : ((dY D s).toInt - (dY D t).toInt).natAbs ≤ 99 := by omega
  have e1 := sq_mono h1
  have e2 := sq_mono h2
  unfold sqD
  omega
theorem sqI {x : Int32} {k : Nat} (h : x.toInt.natAbs = k) (hk : k ≤ 1000) : x * x = nI (k * k) := by
  have h2 : k * k ≤ 1000 * 1000 := sq_mono hk
  have e0 : x.toInt * x.toInt = ((k * k : Nat) : Int) := by
    rw [← h]
    exact (Int.natAbs_mul_self (a := x.toInt)).symm
  apply iEq.mpr
  rw [im (by omega) (by omega), nIt (by omega), e0]
theorem sqV {D : Dt} (w : WgS D) {s t : Nat} (hs : s < dn D) (ht : t < dn D) : (dX D s - dX D t) * (dX D s - dX D t) + (dY D s - dY D t) * (dY D s - dY D t) = nI (sqD D s t) := by
  obtain ⟨_, _, ⟨a1, a2⟩, ⟨a3, a4⟩, _⟩ := w.2.1 s hs
  obtain ⟨_, _, ⟨b1, b2⟩, ⟨b3, b4⟩, _⟩ := w.2.1 t ht
  have e1 : (dX D s - dX D t).toInt = (dX D s).toInt - (dX D t).toInt := is (by omega) (by omega)
  have e2 : (dY D s - dY D t).toInt = (dY D s).toInt - (dY D t).toInt := is (by omega) (by omega)
  rw [sqI (x := dX D s - dX D t) (k := ((dX D s).toInt - (dX D t).toInt).natAbs) (by rw [e1]) (by omega), sqI (x := dY D s - dY D t) (k := ((dY D s).toInt - (dY D t).toInt).natAbs) (by rw [e2]) (by omega), nI_add]
  rfl
theorem distX {h : IH} {A : Nat → Nat} {n : Nat} (S : ShX h A n) {D : Dt} {N : Nat} (hN : 2000 ≤ N) (g : XgS h A D) (w : WgS D) (hn : n = dn D) {s t : Nat} (hs : s < dn D) (ht : t < dn D) : s_X9_distanceTo N h (A (100 + s)) (some (A (100 + t))) = some (nI (dst D s t)) := by
  subst hn
  have gs := g.2 s hs
  have gt := g.2 t ht
  have hv := sqD_le w hs ht
  obtain ⟨z, rfl⟩ : ∃ z, N = z + 1 + 1 + 1 + 1 + 1 + 1 + 1 + 1 + 1 := ⟨N - 9, by omega⟩
  unfold s_X9_distanceTo
  rw [gX9_2 S hs, Option.bind_some, gX9_2 S ht, Option.bind_some, gX9_3 S hs, Option.bind_some, gX9_3 S ht, Option.bind_some, gs.2.2.1, gt.2.2.1, gs.2.2.2.1, gt.2.2.2.1, sqV w hs ht]
  have step : ∀ (r b y : Nat) (b' : Int32), r ≤ 300 → b ≤ 128 → 0 < b → (nI b >>> (1 &&& 31)) = b' → s_X9_distanceTo_L37 (z + 1 + 1 + 1 + 1 + 1 + 1 + 1 + 1 + 1) (y + 1) (nI (sqD D s t)) (nI r) (nI b) h = s_X9_distanceTo_L37 (z + 1 + 1 + 1 + 1 + 1 + 1 + 1 + 1 + 1) y (nI (sqD D s t)) (nI (if (r + b) * (r + b) ≤ sqD D s t then r + b else r)) b' h := by
    intro r b y b' hr hb hb0 he
    have h3 : (r + b) * (r + b) ≤ 500 * 500 := sq_mono (by omega)
    rw [s_X9_distanceTo_L37.eq_2, if_neg (show ¬ nI b ≤ 0 from nI_ge (a := 0) hb0 (by omega)), nI_add, nI_mul, he]
    by_cases c : (r + b) * (r + b) ≤ sqD D s t
    · rw [if_neg (nI_nlt c (by omega)), if_pos c, Option.bind_some]
    · rw [if_pos (nI_lt (by omega) (by omega)), if_neg c, Option.bind_some]
  have inv : ∀ (r b : Nat), r * r ≤ sqD D s t → sqD D s t < (r + 2 * b) * (r + 2 * b) → (if (r + b) * (r + b) ≤ sqD D s t then r + b else r) * (if (r + b) * (r + b) ≤ sqD D s t then r + b else r) ≤ sqD D s t ∧ sqD D s t < ((if (r + b) * (r + b) ≤ sqD D s t then r + b else r) + b) * ((if (r + b) * (r + b) ≤ sqD D s t then r + b else r) + b) := by
    intro r b h1 h2
    by_cases c : (r + b) * (r + b) ≤ sqD D s t
    · rw [if_pos c]
      exact ⟨c, by rw [show r + b + b = r + 2 * b by omega]; exact h2⟩
    · rw [if_neg c]
      exact ⟨h1, by omega⟩
  have fin : ∀ r : Nat, r * r ≤ sqD D s t → sqD D s t < (r + 1) * (r + 1) → r = dst D s t := fun r h1 h2 => sq_uniq h1 h2 (isq_lo _ _) (isq_hi _ _ (by omega))
  have bd : ∀ r : Nat, r * r ≤ sqD D s t → r ≤ 300 := fun r h1 => by
    by_cases q : r ≤ 300
    · exact q
    · have := sq_mono (show 301 ≤ r by omega)
      omega
  rw [show (0 : Int32) = nI 0 from rfl, show (128 : Int32) = nI 128 from rfl, step 0 128 _ (nI 64) (by omega) (by omega) (by omega) (by decide)]
  obtain ⟨a1, a2⟩ := inv 0 128 (Nat.zero_le _) (by omega)
  generalize (if (0 + 128) * (0 + 128) ≤ sqD D s t then 0 + 128 else 0) = r1 at a1 a2
  rw [step r1 64 _ (nI 32) (bd _ a1) (by omega) (by omega) (by decide)]
  obtain ⟨b1, b2⟩ := inv r1 64 a1 a2
  generalize (if (r1 + 64) * (r1 + 64) ≤ sqD D s t then r1 + 64 else r1) = r2 at b1 b2
  rw [step r2 32 _ (nI 16) (bd _ b1) (by omega) (by omega) (by decide)]
  obtain ⟨c1, c2⟩ := inv r2 32 b1 b2
  generalize (if (r2 + 32) * (r2 + 32) ≤ sqD D s t then r2 + 32 else r2) = r3 at c1 c2
  rw [step r3 16 _ (nI 8) (bd _ c1) (by omega) (by omega) (by decide)]
  obtain ⟨d1, d2⟩ := inv r3 16 c1 c2
  generalize (if (r3 + 16) * (r3 + 16) ≤ sqD D s t then r3 + 16 else r3) = r4 at d1 d2
  rw [step r4 8 _ (nI 4) (bd _ d1) (by omega) (by omega) (by decide)]
  obtain ⟨e1, e2⟩ := inv r4 8 d1 d2
  generalize (if (r4 + 8) * (r4 + 8) ≤ sqD D s t then r4 + 8 else r4) = r5 at e1 e2
  rw [step r5 4 _ (nI 2) (bd _ e1) (by omega) (by omega) (by decide)]
  obtain ⟨f1, f2⟩ := inv r5 4 e1 e2
  generalize (if (r5 + 4) * (r5 + 4) ≤ sqD D s t then r5 + 4 else r5) = r6 at f1 f2
  rw [step r6 2 _ (nI 1) (bd _ f1) (by omega) (by omega) (by decide)]
  obtain ⟨g1, g2⟩ := inv r6 2 f1 f2
  generalize (if (r6 + 2) * (r6 + 2) ≤ sqD D s t then r6 + 2 else r6) = r7 at g1 g2
  rw [step r7 1 _ (nI 0) (bd _ g1) (by omega) (by omega) (by decide)]
  obtain ⟨i1, i2⟩ := inv r7 1 g1 g2
  generalize (if (r7 + 1) * (r7 + 1) ≤ sqD D s t then r7 + 1 else r7) = r8 at i1 i2
  rw [s_X9_distanceTo_L37.eq_2, if_pos (by decide), Option.bind_some, fin r8 i1 i2]
theorem distM {h : IH} {m : Nat} {ar : Nat → Nat} (S : ShM h m ar) {D : Dt} {N : Nat} (hN : 2000 ≤ N) (g : MgS h m ar D) (w : WgS D) {s t : Nat} (hs : s < dn D) (ht : t < dn D) (k1 : fI h 1253 m = nI s) (k2 : fI h 1254 m = nI t) : s_X12_distance N h m = some (nI (dst D s t)) := by
  have h12 := w.1
  have gs := g.2.1 s hs
  have gt := g.2.1 t ht
  have hv := sqD_le w hs ht
  unfold s_X12_distance
  rw [mgR 4 S (by decide), Option.bind_some, mgI 53 S.1, Option.bind_some, k1, maI 4 s S (by decide) (show s < 12 by omega), Option.bind_some, Option.bind_some, mgI 54 S.1, Option.bind_some, k2, maI 4 t S (by decide) (show t < 12 by omega), Option.bind_some, mgR 5 S (by decide), Option.bind_some, Option.bind_some, maI 5 s S (by decide) (show s < 12 by omega), Option.bind_some, Option.bind_some, Option.bind_some, maI 5 t S (by decide) (show t < 12 by omega), Option.bind_some, gs.2.2.1, gt.2.2.1, gs.2.2.2.1, gt.2.2.2.1]
  have L : ∀ y v z, v + y = 200 → y < z → v * v ≤ sqD D s t → ∃ r : Nat, s_X12_distance_L42 N z (dX D s - dX D t) (dY D s - dY D t) (nI v) h = some (nI r) ∧ r * r ≤ sqD D s t ∧ sqD D s t < (r + 1) * (r + 1) := by
    intro y
    induction y with
    | zero =>
      intro v z hv2 hz hq
      have : v = 200 := by omega
      subst this
      omega
    | succ y ih =>
      intro v z hv2 hz hq
      obtain ⟨z, rfl⟩ : ∃ x, z = x + 1 := ⟨z - 1, by omega⟩
      have h3 : (v + 1) * (v + 1) ≤ 300 * 300 := sq_mono (by omega)
      rw [s_X12_distance_L42.eq_2, sqV w hs ht, nI_1, nI_mul]
      by_cases c : (v + 1) * (v + 1) ≤ sqD D s t
      · rw [if_neg (nI_nlt c (by omega))]
        exact ih (v + 1) z (by omega) (by omega) c
      · rw [if_pos (nI_lt (by omega) (by omega))]
        exact ⟨v, rfl, hq, by omega⟩
  obtain ⟨r, e, h1, h2⟩ := L 200 0 N (by omega) (by omega) (Nat.zero_le _)
  rw [nI_0] at e
  rw [e, Option.bind_some, sq_uniq h1 h2 (isq_lo (sqD D s t) 200) (isq_hi (sqD D s t) 200 (by omega))]
  rfl
