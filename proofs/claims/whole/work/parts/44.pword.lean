/-! ===== words of the tape: class and reference ===== -/
def dig (c : Int32) : Bool := decide (48 ≤ c ∧ c ≤ 57)
def clB (c : Int32) : Bool := decide (48 ≤ c ∧ c ≤ 57) || decide (65 ≤ c ∧ c ≤ 90)
def allB (p : Int32 → Bool) (b : Nat → Int32) : Nat → Nat → Bool
  | 0, _ => true
  | r + 1, k => p (b k) && allB p b r (k + 1)
def numV (b : Nat → Int32) : Nat → Nat → Int64 → Int64
  | 0, _, v => v
  | r + 1, k, v => numV b r (k + 1) ((10 * v) + ((b k - 48).toInt64))
def calV (b : Nat → Int32) : Nat → Nat → Int64 → Int64
  | 0, _, v => v
  | r + 1, k, v => calV b r (k + 1) ((v <<< ((8 : Int32).toInt64 &&& 63)) ||| (b k).toInt64)
theorem allB_congr (p : Int32 → Bool) {b b' : Nat → Int32} : ∀ r k, (∀ j, k ≤ j → j < k + r → b j = b' j) → allB p b r k = allB p b' r k := by
  intro r
  induction r with
  | zero => intro k _; rfl
  | succ r ih =>
    intro k hb
    unfold allB
    rw [hb k (by omega) (by omega), ih (k + 1) (fun j h1 h2 => hb j (by omega) (by omega))]
theorem numV_congr {b b' : Nat → Int32} : ∀ r k v, (∀ j, k ≤ j → j < k + r → b j = b' j) → numV b r k v = numV b' r k v := by
  intro r
  induction r with
  | zero => intro k v _; rfl
  | succ r ih =>
    intro k v hb
    unfold numV
    rw [hb k (by omega) (by omega), ih (k + 1) _ (fun j h1 h2 => hb j (by omega) (by omega))]
theorem calV_congr {b b' : Nat → Int32} : ∀ r k v, (∀ j, k ≤ j → j < k + r → b j = b' j) → calV b r k v = calV b' r k v := by
  intro r
  induction r with
  | zero => intro k v _; rfl
  | succ r ih =>
    intro k v hb
    unfold calV
    rw [hb k (by omega) (by omega), ih (k + 1) _ (fun j h1 h2 => hb j (by omega) (by omega))]
theorem allB_all {p : Int32 → Bool} {b : Nat → Int32} : ∀ r k, allB p b r k = true ↔ ∀ j, j < r → p (b (k + j)) = true := by
  intro r
  induction r with
  | zero => intro k; exact ⟨fun _ j hj => absurd hj (by omega), fun _ => rfl⟩
  | succ r ih =>
    intro k
    unfold allB
    rw [Bool.and_eq_true, ih]
    constructor
    · intro ⟨h1, h2⟩ j hj
      by_cases e : j = 0
      · subst e
        exact h1
      · have := h2 (j - 1) (by omega)
        rwa [show k + 1 + (j - 1) = k + j by omega] at this
    · intro hh
      refine ⟨hh 0 (by omega), fun j hj => ?_⟩
      have := hh (j + 1) (by omega)
      rwa [show k + (j + 1) = k + 1 + j by omega] at this
theorem wfI_self {h : IH} {f a : Nat} {v : Int32} (e : fI h f a = v) : wfI h f a v = h := by
  have e3 : u2 h.2.2.1 f a v = h.2.2.1 := by
    funext x y
    unfold u2
    by_cases h1 : x = f
    · by_cases h2 : y = a
      · rw [if_pos h1, if_pos h2, h1, h2, ← e]
        rfl
      · rw [if_pos h1, if_neg h2]
    · rw [if_neg h1]
  show (_, _, u2 h.2.2.1 f a v, _) = h
  rw [e3]
theorem wfI_comm (h : IH) {f f' : Nat} (a a' : Nat) (v v' : Int32) (hn : f ≠ f') : wfI (wfI h f a v) f' a' v' = wfI (wfI h f' a' v') f a v := by
  have e : u2 (u2 h.2.2.1 f a v) f' a' v' = u2 (u2 h.2.2.1 f' a' v') f a v := by
    funext x y
    unfold u2
    by_cases h1 : x = f'
    · rw [if_pos h1]
      have h2 : ¬ x = f := fun q => hn (q.symm.trans h1)
      rw [if_neg h2, if_neg h2, if_pos h1]
    · rw [if_neg h1]
      by_cases h2 : x = f
      · rw [if_pos h2, if_pos h2, if_neg h1]
      · rw [if_neg h2, if_neg h2, if_neg h1]
  show (_, _, u2 (u2 h.2.2.1 f a v) f' a' v', _) = (_, _, u2 (u2 h.2.2.1 f' a' v') f a v, _)
  rw [e]
  rfl
/-! the class -/
theorem byteAt_in {h : IH} {A : Nat → Nat} {n : Nat} (S : ShX h A n) {T j : Nat} (hT : fI h 1001 (A 1) = nI T) (h1 : T ≤ 1000) (hj : j < T) : s_X10_byteAt h (A 1) (nI j) = some (rI h (A 2) j) := by
  simp only [s_X10_byteAt, if_neg (nI_pos (n := j) (by omega)), gX10_1 S, hT, Option.bind_some, if_neg (nI_ge hj (by omega)), gX10_0 S, aXI S 2 (by decide) (by decide) (by decide) (show j < LX 2 from (by have : LX 2 = 1000 := rfl; omega))]
theorem isDigit_spec (h : IH) (v : Int32) : s_X10_isDigit h v = some (if dig v then 1 else 0) := by
  unfold s_X10_isDigit dig
  have e1 : (v < 48) ↔ ¬ (48 ≤ v) := by rw [iLt, iLe]; omega
  have e2 : (57 < v) ↔ ¬ (v ≤ 57) := by rw [iLt, iLe]; omega
  by_cases h1 : 48 ≤ v
  · rw [if_neg (fun z => (e1.mp z) h1)]
    by_cases h2 : v ≤ 57
    · rw [if_neg (fun z => (e2.mp z) h2), if_pos (by simp [h1, h2])]
      rfl
    · rw [if_pos (e2.mpr h2), if_neg (by simp [h2])]
      rfl
  · rw [if_pos (e1.mpr h1), if_neg (by simp [h1])]
    rfl
theorem nw5 {h : IH} {A : Nat → Nat} {n : Nat} (S : ShX h A n) {T l N : Nat} (hT : fI h 1001 (A 1) = nI T) (h1 : T ≤ 1000) (hl : fI h 1003 (A 1) = nI l) (h2 : l ≤ T) : ∀ r k z, k + r = l → r < z → s_X10_nextWord_L5 N z (A 1) (nI k) h = some (nI (scn (rI h (A 2)) isSp r k)) := by
  intro r
  induction r with
  | zero =>
    intro k z hk hz
    obtain ⟨z, rfl⟩ : ∃ y, z = y + 1 := ⟨z - 1, by omega⟩
    rw [s_X10_nextWord_L5.eq_2, gX10_3 S, hl, Option.bind_some, if_pos (nI_le (by omega) (by omega))]
    rfl
  | succ r ih =>
    intro k z hk hz
    obtain ⟨z, rfl⟩ : ∃ y, z = y + 1 := ⟨z - 1, by omega⟩
    rw [s_X10_nextWord_L5.eq_2, gX10_3 S, hl, Option.bind_some, if_neg (nI_ge (by omega) (by omega)), vX10 S, byteAt_in S hT h1 (by omega), Option.bind_some]
    unfold scn
    by_cases c : rI h (A 2) k = 32
    · rw [if_pos c, nI_1, ih (k + 1) z (by omega) (by omega), if_pos (by simp [isSp, c])]
    · rw [if_neg c, if_neg (by simp [isSp, c])]
theorem nw34 {h : IH} {A : Nat → Nat} {n : Nat} (S : ShX h A n) {T l N : Nat} (hT : fI h 1001 (A 1) = nI T) (h1 : T ≤ 1000) (hl : fI h 1003 (A 1) = nI l) (h2 : l ≤ T) : ∀ r k z, k + r = l → r < z → s_X10_nextWord_L34 N z (A 1) (nI k) h = some (nI (scn (rI h (A 2)) noSp r k)) := by
  intro r
  induction r with
  | zero =>
    intro k z hk hz
    obtain ⟨z, rfl⟩ : ∃ y, z = y + 1 := ⟨z - 1, by omega⟩
    rw [s_X10_nextWord_L34.eq_2, gX10_3 S, hl, Option.bind_some, if_pos (nI_le (by omega) (by omega))]
    rfl
  | succ r ih =>
    intro k z hk hz
    obtain ⟨z, rfl⟩ : ∃ y, z = y + 1 := ⟨z - 1, by omega⟩
    rw [s_X10_nextWord_L34.eq_2, gX10_3 S, hl, Option.bind_some, if_neg (nI_ge (by omega) (by omega)), vX10 S, byteAt_in S hT h1 (by omega), Option.bind_some]
    unfold scn
    by_cases c : rI h (A 2) k = 32
    · rw [if_pos c, if_neg (by simp [noSp, c])]
    · rw [if_neg c, nI_1, ih (k + 1) z (by omega) (by omega), if_pos (by simp [noSp, c])]
theorem lineEnd_spec {h : IH} {A : Nat → Nat} {n : Nat} (S : ShX h A n) {T N : Nat} (hN : 2000 ≤ N) (hT : fI h 1001 (A 1) = nI T) (h1 : T ≤ 1000) {c : Nat} (hc : c ≤ T) : s_X10_lineEnd N h (A 1) (nI c) = some (nI (lnE (rI h (A 2)) T c)) := by
  have H : ∀ r k z, k + r = T → r < z → s_X10_lineEnd_L2 N z (A 1) (nI k) h = some (nI (scn (rI h (A 2)) noNl r k)) := by
    intro r
    induction r with
    | zero =>
      intro k z hk hz
      obtain ⟨z, rfl⟩ : ∃ y, z = y + 1 := ⟨z - 1, by omega⟩
      rw [s_X10_lineEnd_L2.eq_2, gX10_1 S, hT, Option.bind_some, if_pos (nI_le (by omega) (by omega))]
      rfl
    | succ r ih =>
      intro k z hk hz
      obtain ⟨z, rfl⟩ : ∃ y, z = y + 1 := ⟨z - 1, by omega⟩
      rw [s_X10_lineEnd_L2.eq_2, gX10_1 S, hT, Option.bind_some, if_neg (nI_ge (by omega) (by omega)), vX10 S, byteAt_in S hT h1 (by omega), Option.bind_some]
      unfold scn
      by_cases c : rI h (A 2) k = 10
      · rw [if_pos c, if_neg (by simp [noNl, c])]
      · rw [if_neg c, nI_1, ih (k + 1) z (by omega) (by omega), if_pos (by simp [noNl, c])]
  unfold s_X10_lineEnd
  rw [H (T - c) c N (by omega) (by omega)]
  rfl
def nxX (h : IH) (A : Nat → Nat) (l c : Nat) : IH := wfI (wfI (wfI h 1004 (A 1) (nI (nxS (rI h (A 2)) l c))) 1005 (A 1) (nI (nxE (rI h (A 2)) l c - nxS (rI h (A 2)) l c))) 1002 (A 1) (nI (nxE (rI h (A 2)) l c))
theorem nextWord_spec {h : IH} {A : Nat → Nat} {n : Nat} (S : ShX h A n) {T l c N : Nat} (hN : 2000 ≤ N) (hT : fI h 1001 (A 1) = nI T) (h1 : T ≤ 1000) (hl : fI h 1003 (A 1) = nI l) (h2 : l ≤ T) (hc : fI h 1002 (A 1) = nI c) (h3 : c ≤ l) : s_X10_nextWord N h (A 1) = some (if nxS (rI h (A 2)) l c < nxE (rI h (A 2)) l c then 1 else 0, nxX h A l c) := by
  have hb := nx_bd (rI h (A 2)) h3
  have e1 := nw5 S (N := N) hT h1 hl h2 (l - c) c N (by omega) (by omega)
  have S2 : ShX (wfI h 1004 (A 1) (nI (nxS (rI h (A 2)) l c))) A n := S
  have hT2 : fI (wfI h 1004 (A 1) (nI (nxS (rI h (A 2)) l c))) 1001 (A 1) = nI T := by rw [fI_wfI_ne _ _ (by decide), hT]
  have hl2 : fI (wfI h 1004 (A 1) (nI (nxS (rI h (A 2)) l c))) 1003 (A 1) = nI l := by rw [fI_wfI_ne _ _ (by decide), hl]
  have e2 := nw34 S2 (N := N) hT2 h1 hl2 h2 (l - nxS (rI h (A 2)) l c) (nxS (rI h (A 2)) l c) N (by omega) (by omega)
  have e3 : scn (rI (wfI h 1004 (A 1) (nI (nxS (rI h (A 2)) l c))) (A 2)) noSp (l - nxS (rI h (A 2)) l c) (nxS (rI h (A 2)) l c) = nxE (rI h (A 2)) l c := rfl
  rw [e3] at e2
  have e4 : scn (rI h (A 2)) isSp (l - c) c = nxS (rI h (A 2)) l c := rfl
  rw [e4] at e1
  unfold s_X10_nextWord
  rw [gX10_2 S, Option.bind_some, hc, e1, Option.bind_some, pX10_4 S, Option.bind_some, e2, Option.bind_some, gX10_4 S2, Option.bind_some, fI_wfI, nI_sub hb.2.1, pX10_5 S2, Option.bind_some, pX10_2 (show ShX (wfI (wfI h 1004 (A 1) (nI (nxS (rI h (A 2)) l c))) 1005 (A 1) _) A n from S), Option.bind_some, gX10_5 (show ShX (wfI (wfI (wfI h 1004 (A 1) (nI (nxS (rI h (A 2)) l c))) 1005 (A 1) _) 1002 (A 1) _) A n from S), Option.bind_some, fI_wfI_ne _ _ (by decide), fI_wfI]
  by_cases c1 : nxS (rI h (A 2)) l c < nxE (rI h (A 2)) l c
  · rw [if_neg (nI_nle (by omega) (by omega)), if_pos c1]
    rfl
  · rw [if_pos (show nI (nxE (rI h (A 2)) l c - nxS (rI h (A 2)) l c) ≤ 0 from by rw [show nxE (rI h (A 2)) l c - nxS (rI h (A 2)) l c = 0 by omega]; decide), if_neg c1]
    rfl
theorem wordAsNumber_spec {h : IH} {A : Nat → Nat} {n : Nat} (S : ShX h A n) {T ws wl N : Nat} (hN : 2000 ≤ N) (hT : fI h 1001 (A 1) = nI T) (h1 : T ≤ 1000) (hs : fI h 1004 (A 1) = nI ws) (hl : fI h 1005 (A 1) = nI wl) (h2 : ws + wl ≤ T) (mx : Nat) (hm : mx < 100) : s_X10_wordAsNumber N h (A 1) (nI mx) = some (if 1 ≤ wl ∧ wl ≤ mx ∧ allB dig (rI h (A 2)) wl ws = true then numV (rI h (A 2)) wl ws 0 else -1) := by
  have H : ∀ r k v z, k + r = wl → r < z → s_X10_wordAsNumber_L25 N z (A 1) v (nI k) h = some (if allB dig (rI h (A 2)) r (ws + k) = true then .inr (numV (rI h (A 2)) r (ws + k) v) else .inl (-1)) := by
    intro r
    induction r with
    | zero =>
      intro k v z hk hz
      obtain ⟨z, rfl⟩ : ∃ y, z = y + 1 := ⟨z - 1, by omega⟩
      rw [s_X10_wordAsNumber_L25.eq_2, gX10_5 S, hl, Option.bind_some, if_pos (nI_le (by omega) (by omega))]
      rfl
    | succ r ih =>
      intro k v z hk hz
      obtain ⟨z, rfl⟩ : ∃ y, z = y + 1 := ⟨z - 1, by omega⟩
      rw [s_X10_wordAsNumber_L25.eq_2, gX10_5 S, hl, Option.bind_some, if_neg (nI_ge (by omega) (by omega)), gX10_4 S, hs, Option.bind_some, vX10 S, nI_add, byteAt_in S hT h1 (by omega), Option.bind_some, isDigit_spec, Option.bind_some]
      unfold allB numV
      by_cases c : dig (rI h (A 2) (ws + k)) = true
      · rw [if_pos c, if_neg (by decide), nI_1, ih (k + 1) _ z (by omega) (by omega), c, Bool.true_and, Nat.add_assoc ws k 1]
      · rw [if_neg c, if_pos rfl, if_neg (by simp [c])]
  unfold s_X10_wordAsNumber
  rw [gX10_5 S, Option.bind_some, hl]
  by_cases c1 : 1 ≤ wl
  · rw [if_neg (show ¬ nI wl < 1 from fun z => by have := (nI_ltI (a := wl) (b := 1) (by omega) (by omega)).mp z; omega), Option.bind_some]
    by_cases c2 : wl ≤ mx
    · rw [if_pos (nI_le c2 (by omega)), show (0 : Int32) = nI 0 from rfl, H wl 0 0 N (by omega) (by omega), Option.bind_some, Nat.add_zero]
      by_cases c3 : allB dig (rI h (A 2)) wl ws = true
      · rw [if_pos c3, if_pos ⟨c1, c2, c3⟩, Sum.elim_inr]
      · rw [if_neg c3, if_neg (fun z => c3 z.2.2), Sum.elim_inl]
    · rw [if_neg (nI_ge (by omega) (by omega)), if_neg (fun z => c2 z.2.1)]
  · rw [if_pos (show nI wl < 1 from (nI_ltI (a := wl) (b := 1) (by omega) (by omega)).mpr (by omega)), if_neg (fun z => c1 z.1)]
theorem callBetween_spec {h : IH} {A : Nat → Nat} {n : Nat} (S : ShX h A n) {T N f t : Nat} (hN : 2000 ≤ N) (hT : fI h 1001 (A 1) = nI T) (h1 : T ≤ 1000) (ht : t ≤ T) (hf : f ≤ 1000) : s_X10_callBetween N h (A 1) (nI f) (nI t) = some (if f < t ∧ t - f ≤ 6 ∧ allB clB (rI h (A 2)) (t - f) f = true then calV (rI h (A 2)) (t - f) f 0 else 0) := by
  have H : ∀ r k v z, k + r = t → r < z → s_X10_callBetween_L20 N z (A 1) (nI t) v (nI k) h = some (if allB clB (rI h (A 2)) r k = true then .inr (calV (rI h (A 2)) r k v) else .inl 0) := by
    intro r
    induction r with
    | zero =>
      intro k v z hk hz
      obtain ⟨z, rfl⟩ : ∃ y, z = y + 1 := ⟨z - 1, by omega⟩
      rw [s_X10_callBetween_L20.eq_2, if_pos (nI_le (by omega) (by omega))]
      rfl
    | succ r ih =>
      intro k v z hk hz
      obtain ⟨z, rfl⟩ : ∃ y, z = y + 1 := ⟨z - 1, by omega⟩
      unfold allB calV
      rw [s_X10_callBetween_L20.eq_2, if_neg (nI_ge (by omega) (by omega)), vX10 S, byteAt_in S hT h1 (by omega), Option.bind_some, isDigit_spec, Option.bind_some, nI_1, ih (k + 1) _ z (by omega) (by omega)]
      by_cases c : dig (rI h (A 2) k) = true
      · have c2 : clB (rI h (A 2) k) = true := by
          unfold dig at c
          unfold clB
          rw [c]
          rfl
        rw [if_pos c, if_neg (by decide), c2, Bool.true_and]
      · have c2 : clB (rI h (A 2) k) = decide (65 ≤ rI h (A 2) k ∧ rI h (A 2) k ≤ 90) := by
          unfold dig at c
          unfold clB
          rw [Bool.eq_false_iff.mpr c]
          rfl
        rw [if_neg c, if_pos rfl, c2]
        have e1 : (rI h (A 2) k < 65) ↔ ¬ (65 ≤ rI h (A 2) k) := by rw [iLt, iLe]; omega
        by_cases c3 : 65 ≤ rI h (A 2) k
        · rw [if_neg (fun q => (e1.mp q) c3)]
          by_cases c4 : rI h (A 2) k ≤ 90
          · rw [if_pos c4, decide_eq_true ⟨c3, c4⟩, Bool.true_and]
          · rw [if_neg c4, decide_eq_false (fun q => c4 q.2), Bool.false_and]
            rfl
        · rw [if_pos (e1.mpr c3), decide_eq_false (fun q => c3 q.1), Bool.false_and]
          rfl
  unfold s_X10_callBetween
  by_cases c1 : f < t
  · rw [if_neg (nI_ge c1 (by omega)), nI_sub (by omega)]
    by_cases c2 : t - f ≤ 6
    · rw [if_pos (show nI (t - f) ≤ 6 from nI_le (b := 6) c2 (by omega)), H (t - f) f 0 N (by omega) (by omega), Option.bind_some]
      by_cases c3 : allB clB (rI h (A 2)) (t - f) f = true
      · rw [if_pos c3, if_pos ⟨c1, c2, c3⟩, Sum.elim_inr]
      · rw [if_neg c3, if_neg (fun z => c3 z.2.2), Sum.elim_inl]
    · rw [if_neg (show ¬ nI (t - f) ≤ 6 from nI_ge (a := 6) (by omega) (by omega)), if_neg (fun z => c2 z.2.1)]
  · rw [if_pos (nI_le (by omega) (by omega)), if_neg (fun z => c1 z.1)]
theorem wordAsCall_spec {h : IH} {A : Nat → Nat} {n : Nat} (S : ShX h A n) {T ws wl N : Nat} (hN : 2000 ≤ N) (hT : fI h 1001 (A 1) = nI T) (h1 : T ≤ 1000) (hs : fI h 1004 (A 1) = nI ws) (hl : fI h 1005 (A 1) = nI wl) (h2 : ws + wl ≤ T) : s_X10_wordAsCall N h (A 1) = some (if 1 ≤ wl ∧ wl ≤ 6 ∧ allB clB (rI h (A 2)) wl ws = true then calV (rI h (A 2)) wl ws 0 else 0) := by
  unfold s_X10_wordAsCall
  rw [gX10_4 S, hs, Option.bind_some, Option.bind_some, gX10_5 S, hl, Option.bind_some, vX10 S, nI_add, callBetween_spec S hN hT h1 h2 (by omega), Option.bind_some, Nat.add_sub_cancel_left]
  congr 1
  by_cases c : 1 ≤ wl ∧ wl ≤ 6 ∧ allB clB (rI h (A 2)) wl ws = true
  · rw [if_pos c, if_pos ⟨by omega, c.2⟩]
  · rw [if_neg c, if_neg (fun z => c ⟨by omega, z.2⟩)]
/-- the word is the k-th constant text -/
def isTx (b : Nat → Int32) (ws wl k : Nat) : Prop := wl = scLen.getD k 0 ∧ ∀ j, j < wl → b (ws + j) = (scByt.getD k []).getD j 0
theorem wordIs_spec {h : IH} {A : Nat → Nat} {n : Nat} (S : ShX h A n) {T ws wl N : Nat} (hN : 2000 ≤ N) (hT : fI h 1001 (A 1) = nI T) (h1 : T ≤ 1000) (hs : fI h 1004 (A 1) = nI ws) (hl : fI h 1005 (A 1) = nI wl) (h2 : ws + wl ≤ T) {k : Nat} (hk : k < 13) : (isTx (rI h (A 2)) ws wl k → s_X10_wordIs N h (A 1) k = some 1) ∧ (¬ isTx (rI h (A 2)) ws wl k → s_X10_wordIs N h (A 1) k = some 0) := by
  have hsm := sc_small k hk
  have e0 : slen k = some (nI (scLen.getD k 0)) := by unfold slen; rw [if_pos hk]
  unfold s_X10_wordIs
  rw [gX10_5 S, hl, Option.bind_some, e0, Option.bind_some]
  by_cases c1 : wl = scLen.getD k 0
  · have H : ∀ r j z, j + r = wl → r < z → ((∀ i, j ≤ i → i < wl → rI h (A 2) (ws + i) = (scByt.getD k []).getD i 0) → s_X10_wordIs_L15 N z (A 1) k (nI j) h = some (.inr ())) ∧ (¬ (∀ i, j ≤ i → i < wl → rI h (A 2) (ws + i) = (scByt.getD k []).getD i 0) → s_X10_wordIs_L15 N z (A 1) k (nI j) h = some (.inl 0)) := by
      intro r
      induction r with
      | zero =>
        intro j z hj hz
        obtain ⟨z, rfl⟩ : ∃ y, z = y + 1 := ⟨z - 1, by omega⟩
        rw [s_X10_wordIs_L15.eq_2, e0, Option.bind_some, if_pos (nI_le (by omega) (by omega))]
        exact ⟨fun _ => rfl, fun q => absurd (fun i h1 h2 => by omega) q⟩
      | succ r ih =>
        intro j z hj hz
        obtain ⟨z, rfl⟩ : ∃ y, z = y + 1 := ⟨z - 1, by omega⟩
        have e5 : schar k (nI j) = some ((scByt.getD k []).getD j 0) := by
          unfold schar
          have e6 := nI_clamp (n := j) (by omega)
          rw [if_pos ⟨hk, nI_in (by omega) (by omega)⟩, e6]
        have ih := ih (j + 1) z (by omega) (by omega)
        rw [s_X10_wordIs_L15.eq_2, e0, Option.bind_some, if_neg (nI_ge (by omega) (by omega)), gX10_4 S, hs, Option.bind_some, vX10 S, nI_add, byteAt_in S hT h1 (by omega), Option.bind_some, e5, Option.bind_some, nI_1]
        by_cases c3 : rI h (A 2) (ws + j) = (scByt.getD k []).getD j 0
        · rw [if_pos c3]
          refine ⟨fun q => ih.1 (fun i h1 h2 => q i (by omega) h2), fun q => ih.2 (fun w => q (fun i h1 h2 => ?_))⟩
          by_cases e : i = j
          · rw [e]
            exact c3
          · exact w i (by omega) h2
        · rw [if_neg c3]
          exact ⟨fun q => absurd (q j (by omega) (by omega)) c3, fun _ => rfl⟩
    rw [if_pos (by rw [c1]), show (0 : Int32) = nI 0 from rfl]
    have H := H wl 0 N (by omega) (by omega)
    refine ⟨fun q => ?_, fun q => ?_⟩
    · rw [H.1 (fun i _ h2 => q.2 i h2)]
      rfl
    · rw [H.2 (fun w => q ⟨c1, fun i h2 => w i (by omega) h2⟩)]
      rfl
  · rw [if_neg (fun z => c1 ((nI_eq (by omega) (by omega)).mp z))]
    exact ⟨fun q => absurd q.1 c1, fun _ => rfl⟩
