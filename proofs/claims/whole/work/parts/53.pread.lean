/-! ===== a log read from the tape: the class ===== -/
def gdL (b : Nat → Int32) (T : Nat) : Nat → Nat → List LnT
  | 0, _ => []
  | r + 1, c => if c < T then (match (pLine b (lnE b T c) c).2 with
      | some x => x :: gdL b T r (lnE b T c + 1)
      | none => gdL b T r (lnE b T c + 1)) else []
def wrL_ (b : Nat → Int32) (T : Nat) : Nat → Nat → Nat → List Int32
  | 0, _, _ => []
  | r + 1, c, k => if c < T then (match (pLine b (lnE b T c) c).2 with
      | some _ => wrL_ b T r (lnE b T c + 1) (k + 1)
      | none => (((1000 * nI k) + nI (pLine b (lnE b T c) c).1) - nI c) :: wrL_ b T r (lnE b T c + 1) (k + 1)) else []
theorem wr_len (b : Nat → Int32) (T : Nat) : ∀ r c k, T < c + r → (wrL_ b T r c k).length + c ≤ T + (if c ≤ T then 0 else c - T) := by
  intro r
  induction r with
  | zero =>
    intro c k h
    unfold wrL_
    rw [if_neg (by omega)]
    simp
    omega
  | succ r ih =>
    intro c k h
    unfold wrL_
    by_cases q : c < T
    · have hb := lnE_bd b (l := T) (c := c) (by omega)
      have i1 := ih (lnE b T c + 1) (k + 1) (by omega)
      rw [if_pos q, if_pos (show c ≤ T by omega)]
      split
      · split at i1 <;> omega
      · rw [List.length_cons]
        split at i1 <;> omega
    · rw [if_neg q]
      split <;> simp <;> omega
def LnA (h : IH) (a : Nat) (b : Nat → Int32) (x : LnT) : Prop := fI h 200 a = x.1 ∧ (x.1 ≠ 2 → fL h 201 a = x.2.1) ∧ (x.1 = 1 → fL h 202 a = x.2.2.1) ∧ (x.1 = 0 → fL h 203 a = calV b x.2.2.2.2.1 x.2.2.2.1 0 ∧ fI h 204 a = x.2.2.2.2.2.1 ∧ fI h 205 a = x.2.2.2.2.2.2)
def fR1 (A : Nat → Nat) (f a : Nat) : Prop := (1002 ≤ f ∧ f ≤ 1005) ∨ (200 ≤ f ∧ f ≤ 205 ∧ (a = A 6 ∨ ∃ i, i < 16 ∧ a = A (1000 + (16 * 36 + i)))) ∨ (f = 401 ∧ a = A 236) ∨ f = 503
def gR1 (A : Nat → Nat) (f a : Nat) : Prop := 201 ≤ f ∧ f ≤ 203 ∧ (a = A 6 ∨ ∃ i, i < 16 ∧ a = A (1000 + (16 * 36 + i)))
abbrev FrR (A : Nat → Nat) : IH → IH → Prop := Fr (fR1 A) (gR1 A) (fun a => a = A 7) no1
abbrev FrR2 (A : Nat → Nat) : IH → IH → Prop := Fr (fun f a => fR1 A f a ∨ (f = 402 ∧ a = A 236)) (gR1 A) (fun a => a = A 7) no1
theorem FrL.toR {A : Nat → Nat} {h h' : IH} (x : FrL A h h') : FrR A h h' := by
  refine Fr.mono x (fun f a q => ?_) (fun f a q => ?_) (fun a q => q.elim) (fun a q => q)
  · rcases q with q | q
    · exact Or.inl q
    · exact Or.inr (Or.inl ⟨q.1, q.2.1, Or.inl q.2.2⟩)
  · exact ⟨q.1, q.2.1, Or.inl q.2.2⟩
theorem q36 (n : Nat) : lvQ n 36 := Or.inr rfl
theorem copyX {h : IH} {A : Nat → Nat} {n : Nat} (S : ShX h A n) {b : Nat → Int32} {x : LnT} {i : Nat} (hi : i < 16) (hx : LnX h A b x) : ∃ h', s_X2_copyLine h (A (1000 + (16 * 36 + i))) (some (A 6)) = some h' ∧ Fr (fun f a => 200 ≤ f ∧ f ≤ 205 ∧ a = A (1000 + (16 * 36 + i))) (fun f a => 201 ≤ f ∧ f ≤ 203 ∧ a = A (1000 + (16 * 36 + i))) no1 no1 h h' ∧ LnA h' (A (1000 + (16 * 36 + i))) b x := by
  have ne : A 6 ≠ A (1000 + (16 * 36 + i)) := nA S (lv_lit (by decide) (by decide)) (lv_e S.1 (q36 n) hi) (by omega)
  generalize ha : A (1000 + (16 * 36 + i)) = a at ne ⊢
  have ka : kd h a = 3 := by rw [← ha]; exact kE S (q36 n) hi
  have k6 := k6 S
  unfold s_X2_copyLine
  rw [gI_ok (c := 2) 0 k6, Option.bind_some, pI_ok (c := 2) 0 _ ka, Option.bind_some]
  rw [gL_ok (c := 2) 1 (show kd (wfI h (100 * 2 + 0) a _) (A 6) = 3 from k6), Option.bind_some, pL_ok (c := 2) 1 _ (show kd (wfI h (100 * 2 + 0) a _) a = 3 from ka), Option.bind_some]
  generalize h1e : wfL (wfI h (100 * 2 + 0) a (fI h (100 * 2 + 0) (A 6))) (100 * 2 + 1) a (fL (wfI h (100 * 2 + 0) a (fI h (100 * 2 + 0) (A 6))) (100 * 2 + 1) (A 6)) = H1
  have k1 : kd H1 = kd h := by rw [← h1e]; rfl
  rw [gL_ok (c := 2) 2 (show kd H1 (A 6) = 3 by rw [k1]; exact k6), Option.bind_some, pL_ok (c := 2) 2 _ (show kd H1 a = 3 by rw [k1]; exact ka), Option.bind_some]
  generalize h2e : wfL H1 (100 * 2 + 2) a (fL H1 (100 * 2 + 2) (A 6)) = H2
  have k2 : kd H2 = kd h := by rw [← h2e]; exact k1
  rw [gL_ok (c := 2) 3 (show kd H2 (A 6) = 3 by rw [k2]; exact k6), Option.bind_some, pL_ok (c := 2) 3 _ (show kd H2 a = 3 by rw [k2]; exact ka), Option.bind_some]
  generalize h3e : wfL H2 (100 * 2 + 3) a (fL H2 (100 * 2 + 3) (A 6)) = H3
  have k3 : kd H3 = kd h := by rw [← h3e]; exact k2
  rw [gI_ok (c := 2) 4 (show kd H3 (A 6) = 3 by rw [k3]; exact k6), Option.bind_some, pI_ok (c := 2) 4 _ (show kd H3 a = 3 by rw [k3]; exact ka), Option.bind_some]
  generalize h4e : wfI H3 (100 * 2 + 4) a (fI H3 (100 * 2 + 4) (A 6)) = H4
  have k4 : kd H4 = kd h := by rw [← h4e]; exact k3
  rw [gI_ok (c := 2) 5 (show kd H4 (A 6) = 3 by rw [k4]; exact k6), Option.bind_some, pI_ok (c := 2) 5 _ (show kd H4 a = 3 by rw [k4]; exact ka), Option.bind_some]
  have L1 : fL H1 201 a = fL h 201 (A 6) := by rw [← h1e]; exact fL_wfL _ _ _ _
  have L2 : fL H2 202 a = fL h 202 (A 6) := by
    rw [← h2e]
    refine (fL_wfL _ _ _ _).trans ?_
    rw [← h1e]
    exact fL_wfL_ne _ _ (by decide)
  have L3 : fL H3 203 a = fL h 203 (A 6) := by
    rw [← h3e]
    refine (fL_wfL _ _ _ _).trans ?_
    rw [← h2e]
    refine (fL_wfL_ne _ _ (by decide)).trans ?_
    rw [← h1e]
    exact fL_wfL_ne _ _ (by decide)
  have L2' : fL H3 202 a = fL h 202 (A 6) := by
    rw [← h3e]
    exact (fL_wfL_ne _ _ (by decide)).trans L2
  have L1' : fL H3 201 a = fL h 201 (A 6) := by
    rw [← h3e]
    refine (fL_wfL_ne _ _ (by decide)).trans ?_
    rw [← h2e]
    exact (fL_wfL_ne _ _ (by decide)).trans L1
  have I0 : ∀ f c, f ≠ 200 → fI H3 f c = fI h f c := by
    intro f c hf
    rw [← h3e, ← h2e, ← h1e]
    exact fI_wfI_ne _ _ hf
  have I3 : fI H3 200 a = fI h 200 (A 6) := by
    rw [← h3e, ← h2e, ← h1e]
    show fI (wfI h 200 a (fI h 200 (A 6))) 200 a = _
    exact fI_wfI _ _ _ _
  have I4 : fI H4 204 a = fI h 204 (A 6) := by
    rw [← h4e]
    exact (fI_wfI _ _ _ _).trans (I0 _ _ (by decide))
  refine ⟨_, rfl, ?_, ?_⟩
  · rw [← h4e, ← h3e, ← h2e, ← h1e]
    exact (((((Fr.wI _ _ _ _ ⟨by omega, by omega, rfl⟩).trans (Fr.wL _ _ _ _ ⟨by omega, by omega, rfl⟩)).trans (Fr.wL _ _ _ _ ⟨by omega, by omega, rfl⟩)).trans (Fr.wL _ _ _ _ ⟨by omega, by omega, rfl⟩)).trans (Fr.wI _ _ _ _ ⟨by omega, by omega, rfl⟩)).trans (Fr.wI _ _ _ _ ⟨by omega, by omega, rfl⟩)
  · have J0 : fI (wfI H4 (100 * 2 + 5) a (fI H4 (100 * 2 + 5) (A 6))) 200 a = fI h 200 (A 6) := by
      rw [fI_wfI_ne _ _ (by decide), ← h4e]
      exact (fI_wfI_ne _ _ (by decide)).trans I3
    have J4 : fI (wfI H4 (100 * 2 + 5) a (fI H4 (100 * 2 + 5) (A 6))) 204 a = fI h 204 (A 6) := by
      rw [fI_wfI_ne _ _ (by decide)]
      exact I4
    have J5 : fI (wfI H4 (100 * 2 + 5) a (fI H4 (100 * 2 + 5) (A 6))) 205 a = fI h 205 (A 6) := by
      refine (fI_wfI _ _ _ _).trans ?_
      rw [← h4e]
      exact (fI_wfI_ne _ _ (by decide)).trans (I0 _ _ (by decide))
    have JL : fL (wfI H4 (100 * 2 + 5) a (fI H4 (100 * 2 + 5) (A 6))) = fL H3 := by rw [← h4e]; rfl
    unfold LnA
    rw [J0, J4, J5, JL, L1', L2', L3]
    exact hx
theorem lineA {h : IH} {A : Nat → Nat} {n : Nat} (S : ShX h A n) {T c l N : Nat} {b : Nat → Int32} (hN : 2000 ≤ N) (hT : fI h 1001 (A 1) = nI T) (h1 : T ≤ 1000) (hb : rI h (A 2) = b) (hc : c ≤ l) (hl : l ≤ T) : ∃ h0 h', s_X10_startWords h (A 1) (nI c) (nI l) = some h0 ∧ ShX h0 A n ∧ s_X5_readLine N h0 (A 5) = some (bI (pLine b l c).2.isSome, h') ∧ FrL A h h' ∧ fI h' 1004 (A 1) = nI (pLine b l c).1 ∧ ∀ x, (pLine b l c).2 = some x → LnX h' A b x := by
  have S1 : ShX (wfI h 1002 (A 1) (nI c)) A n := S
  have S2 : ShX (wfI (wfI h 1002 (A 1) (nI c)) 1003 (A 1) (nI l)) A n := S
  have w : WX (wfI (wfI h 1002 (A 1) (nI c)) 1003 (A 1) (nI l)) A T l c b := ⟨by rw [fI_wfI_ne _ _ (by decide), fI_wfI_ne _ _ (by decide), hT], h1, fI_wfI _ _ _ _, hl, by rw [fI_wfI_ne _ _ (by decide), fI_wfI], hc, hb⟩
  obtain ⟨h', e, f, p, x⟩ := lineX S2 hN w
  refine ⟨_, h', ?_, S2, e, ?_, p, x⟩
  · unfold s_X10_startWords
    rw [pX10_2 S, Option.bind_some, pX10_3 S1, Option.bind_some]
  · exact ((Fr.wI _ _ _ _ (Or.inl (by omega))).trans (Fr.wI _ _ _ _ (Or.inl (by omega)))).trans f
/-- the state of the reader: k entries, w wrong lines -/
def RdX (h : IH) (A : Nat → Nat) (T k w : Nat) (b : Nat → Int32) : Prop := fI h 1001 (A 1) = nI T ∧ rI h (A 2) = b ∧ fI h 401 (A 236) = nI k ∧ fI h 503 (A 5) = nI w
theorem addWX {h : IH} {A : Nat → Nat} {n : Nat} (S : ShX h A n) {w : Nat} (hw : w < 1000) (h0 : fI h 503 (A 5) = nI w) (v : Int32) : s_X5_addWrong h (A 5) v = some (wfI (setI h (A 7) (upd (rI h (A 7)) w v)) 503 (A 5) (nI (w + 1))) := by
  have e7 : lnO h (some (A 7)) = some (nI 1000) := by
    obtain ⟨k1, k2, _⟩ := lA1 S (i := 7) (k := 20) (z := 1000) (by decide) (by decide) (by decide) (by decide) (by decide)
    unfold lnO
    rw [Option.bind_some, if_pos (by omega), k2]
  unfold s_X5_addWrong
  have S1 : ∀ g, ShX (setI h (A 7) g) A n := fun g => S
  simp only [gX5_3 S, gX5_2 S, e7, Option.bind_some, h0, if_neg (show ¬ nI 1000 ≤ nI w from nI_ge hw (by omega)), sXI S 7 v (by decide) (by decide) (by decide) (show w < LX 7 from hw), gX5_3 (S1 _), fI_setI, nI_1, pX5_3 (S1 _)]
theorem ne_flds {A : Nat → Nat} {h h' : IH} {n : Nat} (S : ShX h A n) (x : FrL A h h') : fI h' 1001 (A 1) = fI h 1001 (A 1) ∧ fI h' 401 (A 236) = fI h 401 (A 236) ∧ fI h' 503 (A 5) = fI h 503 (A 5) ∧ (∀ a, rI h' a = rI h a) ∧ ∀ i b y, i < 16 → LnA h (A (1000 + (16 * 36 + i))) b y → LnA h' (A (1000 + (16 * 36 + i))) b y := by
  have c : ∀ f, f < 1002 ∨ 1005 < f → (f < 200 ∨ 205 < f) → ∀ a, fI h' f a = fI h f a := fun f h1 h2 a => x.fI (fun z => by rcases z with z | z <;> omega)
  refine ⟨c _ (by omega) (by omega) _, c _ (by omega) (by omega) _, c _ (by omega) (by omega) _, fun a => x.rI (fun z => z), fun i b y hi q => ?_⟩
  have ne : A (1000 + (16 * 36 + i)) ≠ A 6 := nA S (lv_e S.1 (q36 n) hi) (lv_lit (by decide) (by decide)) (by omega)
  have d : ∀ f, f < 1000 → fI h' f (A (1000 + (16 * 36 + i))) = fI h f (A (1000 + (16 * 36 + i))) := fun f hf => x.fI (fun z => by
    rcases z with z | z
    · omega
    · exact ne z.2.2)
  have d2 : ∀ f, fL h' f (A (1000 + (16 * 36 + i))) = fL h f (A (1000 + (16 * 36 + i))) := fun f => x.fL (fun z => ne z.2.2)
  unfold LnA
  rw [d 200 (by omega), d 204 (by omega), d 205 (by omega), d2, d2, d2]
  exact q
def dLn : LnT := (0, 0, 0, 0, 0, 0, 0)
theorem readL {A : Nat → Nat} {n T N : Nat} {b : Nat → Int32} (hN : 2000 ≤ N) (hT : T ≤ 1000) : ∀ (r z c k w j : Nat) (h : IH), ShX h A n → RdX h A T k w b → T < c + r → r < z → j ≤ c → w ≤ c → c ≤ T + 1 → k ≤ 16 → ∃ h', (k + (gdL b T r c).length ≤ 16 → s_X5_readTape_L25 N z (A 5) (nI c) (nI j) h = some (.inr h')) ∧ (16 < k + (gdL b T r c).length → s_X5_readTape_L25 N z (A 5) (nI c) (nI j) h = some (.inl (0, h'))) ∧ FrR A h h' ∧ (k + (gdL b T r c).length ≤ 16 → fI h' 401 (A 236) = nI (k + (gdL b T r c).length) ∧ (∀ i, i < k → ∀ y, LnA h (A (1000 + (16 * 36 + i))) b y → LnA h' (A (1000 + (16 * 36 + i))) b y) ∧ (∀ i, i < (gdL b T r c).length → LnA h' (A (1000 + (16 * 36 + (k + i)))) b ((gdL b T r c).getD i dLn)) ∧ fI h' 503 (A 5) = nI (w + (wrL_ b T r c j).length) ∧ (∀ i, i < w → rI h' (A 7) i = rI h (A 7) i) ∧ (∀ i, i < (wrL_ b T r c j).length → rI h' (A 7) (w + i) = (wrL_ b T r c j).getD i 0)) := by
  intro r
  have E : ∀ (r z c k w j : Nat) (h : IH), ShX h A n → RdX h A T k w b → ¬ c < T → 0 < z → c ≤ T + 1 → k ≤ 16 → gdL b T r c = [] → wrL_ b T r c j = [] → ∃ h', (k + (gdL b T r c).length ≤ 16 → s_X5_readTape_L25 N z (A 5) (nI c) (nI j) h = some (.inr h')) ∧ (16 < k + (gdL b T r c).length → s_X5_readTape_L25 N z (A 5) (nI c) (nI j) h = some (.inl (0, h'))) ∧ FrR A h h' ∧ (k + (gdL b T r c).length ≤ 16 → fI h' 401 (A 236) = nI (k + (gdL b T r c).length) ∧ (∀ i, i < k → ∀ y, LnA h (A (1000 + (16 * 36 + i))) b y → LnA h' (A (1000 + (16 * 36 + i))) b y) ∧ (∀ i, i < (gdL b T r c).length → LnA h' (A (1000 + (16 * 36 + (k + i)))) b ((gdL b T r c).getD i dLn)) ∧ fI h' 503 (A 5) = nI (w + (wrL_ b T r c j).length) ∧ (∀ i, i < w → rI h' (A 7) i = rI h (A 7) i) ∧ (∀ i, i < (wrL_ b T r c j).length → rI h' (A 7) (w + i) = (wrL_ b T r c j).getD i 0)) := by
    intro r z c k w j h S R hc hz hc2 hk e1 e2
    obtain ⟨z, rfl⟩ : ∃ y, z = y + 1 := ⟨z - 1, by omega⟩
    rw [e1, e2]
    refine ⟨h, fun _ => ?_, fun q => ?_, Fr.refl _, fun _ => ⟨?_, fun i _ y q => q, fun i hi => absurd hi (Nat.not_lt_zero i), ?_, fun i _ => rfl, fun i hi => absurd hi (Nat.not_lt_zero i)⟩⟩
    · rw [s_X5_readTape_L25.eq_2, gX5_0 S, Option.bind_some, gX10_1 S, Option.bind_some, R.1, if_pos (nI_le (by omega) (by omega))]
    · simp at q
      omega
    · exact R.2.2.1
    · exact R.2.2.2
  induction r with
  | zero =>
    intro z c k w j h S R h1 h2 h3 h4 h5 h6
    exact E 0 z c k w j h S R (by omega) (by omega) h5 h6 rfl rfl
  | succ r ih =>
    intro z c k w j h S R h1 h2 h3 h4 h5 h6
    by_cases hc : c < T
    · obtain ⟨z, rfl⟩ : ∃ y, z = y + 1 := ⟨z - 1, by omega⟩
      have hb := lnE_bd b (l := T) (c := c) (by omega)
      have hle := lineEnd_spec S hN R.1 hT (c := c) (by omega)
      rw [R.2.1] at hle
      obtain ⟨h0, h14, e0, S0, e14, f14, p14, x14⟩ := lineA S hN R.1 hT R.2.1 hb.1 hb.2
      have S14 := f14.shX S
      obtain ⟨n1, n2, n3, n4, n5⟩ := ne_flds S f14
      have start : ∀ K, (if bI (pLine b (lnE b T c) c).2.isSome = 0 then (gR h14 5 0 (some (A 5))).bind fun v16 => (gI h14 10 4 v16).bind fun v17 => (cV h14 5 (some (A 5)) fun a19 => s_X5_addWrong h14 a19 (((1000 * nI j) + v17) - nI c)).bind fun v18 => s_X5_readTape_L25 N z (A 5) (nI (lnE b T c) + 1) (nI j + 1) v18 else (gR h14 5 4 (some (A 5))).bind fun v20 => (gR h14 5 1 (some (A 5))).bind fun v21 => (cV h14 4 v20 fun a24 => s_X4_add h14 a24 v21).bind fun v22 => if v22.1 = 0 then some (.inl (0, v22.2)) else s_X5_readTape_L25 N z (A 5) (nI (lnE b T c) + 1) (nI j + 1) v22.2) = K → s_X5_readTape_L25 N (z + 1) (A 5) (nI c) (nI j) h = K := by
        intro K hK
        rw [s_X5_readTape_L25.eq_2]
        simp only [gX5_0 S, gX10_1 S, R.1, Option.bind_some, if_neg (show ¬ nI T ≤ nI c from nI_ge hc (by omega)), if_neg (show ¬ (1000 : Int32) ≤ nI j from nI_ge (b := 1000) (by omega) (by omega)), vX10 S, hle, e0, vX5 S0, e14]
        exact hK
      unfold gdL wrL_
      rw [if_pos hc, if_pos hc]
      cases hp : (pLine b (lnE b T c) c).2 with
      | none =>
        have hw : w < 1000 := by omega
        have ew := addWX S14 hw (by rw [n3]; exact R.2.2.2) (((1000 * nI j) + nI (pLine b (lnE b T c) c).1) - nI c)
        generalize hH : wfI (setI h14 (A 7) (upd (rI h14 (A 7)) w (((1000 * nI j) + nI (pLine b (lnE b T c) c).1) - nI c))) 503 (A 5) (nI (w + 1)) = H at ew
        have SH : ShX H A n := by rw [← hH]; exact S14
        have nr2 : A 2 ≠ A 7 := nA S (lv_lit (by decide) (by decide)) (lv_lit (by decide) (by decide)) (by decide)
        have RH : RdX H A T k (w + 1) b := by
          rw [← hH]
          exact ⟨by rw [fI_wfI_ne _ _ (by decide), fI_setI, n1]; exact R.1, by rw [rI_wfI, rI_setI_ne _ _ nr2, n4]; exact R.2.1, by rw [fI_wfI_ne _ _ (by decide), fI_setI, n2]; exact R.2.2.1, fI_wfI _ _ _ _⟩
        have fH : FrR A h H := by
          rw [← hH]
          exact (f14.toR.trans (Fr.sI _ _ _ rfl)).trans (Fr.wI _ _ _ _ (Or.inr (Or.inr (Or.inr rfl))))
        have keep : ∀ i b y, i < 16 → LnA h (A (1000 + (16 * 36 + i))) b y → LnA H (A (1000 + (16 * 36 + i))) b y := by
          intro i b y hi q
          have := n5 i b y hi q
          rw [← hH]
          unfold LnA at this ⊢
          rw [fI_wfI_ne _ _ (by decide), fI_wfI_ne _ _ (by decide), fI_wfI_ne _ _ (by decide)]
          exact this
        obtain ⟨h', a1, a2, a3, a4⟩ := ih z (lnE b T c + 1) k (w + 1) (j + 1) H SH RH (by omega) (by omega) (by omega) (by omega) (by omega) h6
        have hK : ∀ K, s_X5_readTape_L25 N z (A 5) (nI (lnE b T c + 1)) (nI (j + 1)) H = K → s_X5_readTape_L25 N (z + 1) (A 5) (nI c) (nI j) h = K := by
          intro K hK
          apply start
          rw [hp]
          rw [if_pos (show bI (none : Option LnT).isSome = 0 from rfl)]
          simp only [gX5_0 S14, gX10_4 S14, p14, Option.bind_some, vX5 S14, ew, nI_1]
          exact hK
        refine ⟨h', fun q => hK _ (a1 q), fun q => hK _ (a2 q), fH.trans a3, fun q => ?_⟩
        obtain ⟨c1, c2, c3, c4, c5, c6⟩ := a4 q
        refine ⟨c1, fun i hi y hy => c2 i hi y (keep i b y (by omega) hy), c3, ?_, fun i hi => ?_, fun i hi => ?_⟩
        · rw [c4, List.length_cons]
          congr 1
          omega
        · rw [c5 i (by omega), ← hH, rI_wfI, rI_setI]
          unfold upd
          rw [if_neg (by omega), n4]
        · cases i with
          | zero =>
            rw [Nat.add_zero, c5 w (by omega), ← hH, rI_wfI, rI_setI]
            unfold upd
            rw [if_pos rfl]
            rfl
          | succ i =>
            rw [show w + (i + 1) = w + 1 + i by omega, c6 i (by simpa using hi)]
            rfl
      | some x =>
        have hx := x14 x hp
        have g0 : bI (some x).isSome = 1 := rfl
        have a0 : gR h14 5 4 (some (A 5)) = some (some (A (200 + 36))) := gX5_4 S14
        have t0 : fI h14 401 (A (200 + 36)) = nI k := by
          show fI h14 401 (A 236) = nI k
          rw [n2]
          exact R.2.2.1
        by_cases hk : k < 16
        · obtain ⟨h6', e6, f6, y6⟩ := copyX S14 hk hx
          have S6 := f6.shX S14
          have t6 : fI h6' 401 (A (200 + 36)) = nI k := by
            rw [f6.fI (fun z => by have := z.2.1; omega)]
            exact t0
          have ea : s_X4_add h14 (A (200 + 36)) (some (A 6)) = some (1, wfI h6' 401 (A (200 + 36)) (nI (k + 1))) := by
            unfold s_X4_add
            simp only [gX4_1 S14 (q36 n), t0, Option.bind_some, if_pos (show nI k < 16 from nI_lt (b := 16) hk (by omega)), gX4_0 S14 (q36 n), rX300 S14 (q36 n) hk, vX2 S14 (q36 n) hk, e6, gX4_1 S6 (q36 n), t6, nI_1, pX4_1 S6 (q36 n)]
          generalize hH : wfI h6' 401 (A (200 + 36)) (nI (k + 1)) = H at ea
          have SH : ShX H A n := by rw [← hH]; exact S6
          have cF : ∀ f a, f < 200 ∨ 205 < f → f ≠ 401 → fI H f a = fI h14 f a := by
            intro f a q1 q2
            rw [← hH, fI_wfI_ne _ _ q2, f6.fI (fun z => by have := z.1; have := z.2.1; omega)]
          have RH : RdX H A T (k + 1) w b := by
            refine ⟨by rw [cF _ _ (by omega) (by omega), n1]; exact R.1, ?_, by rw [← hH]; exact fI_wfI _ _ _ _, by rw [cF _ _ (by omega) (by omega), n3]; exact R.2.2.2⟩
            rw [← hH, rI_wfI, f6.rI (fun z => z), n4]
            exact R.2.1
          have rH : ∀ a, rI H a = rI h a := fun a => by rw [← hH, rI_wfI, f6.rI (fun z => z), n4]
          have fH : FrR A h H := by
            rw [← hH]
            refine (f14.toR.trans (Fr.mono f6 (fun f a q => Or.inr (Or.inl ⟨q.1, q.2.1, Or.inr ⟨k, hk, q.2.2⟩⟩)) (fun f a q => ⟨q.1, q.2.1, Or.inr ⟨k, hk, q.2.2⟩⟩) (fun a q => q.elim) (fun a q => q))).trans (Fr.wI _ _ _ _ (Or.inr (Or.inr (Or.inl ⟨rfl, rfl⟩))))
          have keep : ∀ i y, i < k → LnA h (A (1000 + (16 * 36 + i))) b y → LnA H (A (1000 + (16 * 36 + i))) b y := by
            intro i y hi q
            have := n5 i b y (by omega) q
            have ne : A (1000 + (16 * 36 + i)) ≠ A (1000 + (16 * 36 + k)) := nA S (lv_e S.1 (q36 n) (by omega)) (lv_e S.1 (q36 n) hk) (by omega)
            rw [← hH]
            unfold LnA at this ⊢
            rw [fI_wfI_ne _ _ (by decide), fI_wfI_ne _ _ (by decide), fI_wfI_ne _ _ (by decide)]
            show fI h6' 200 _ = _ ∧ (_ → fL h6' 201 _ = _) ∧ (_ → fL h6' 202 _ = _) ∧ (_ → fL h6' 203 _ = _ ∧ fI h6' 204 _ = _ ∧ fI h6' 205 _ = _)
            rw [f6.fI (fun z => ne z.2.2), f6.fI (fun z => ne z.2.2), f6.fI (fun z => ne z.2.2), f6.fL (fun z => ne z.2.2), f6.fL (fun z => ne z.2.2), f6.fL (fun z => ne z.2.2)]
            exact this
          have new : LnA H (A (1000 + (16 * 36 + k))) b x := by
            rw [← hH]
            unfold LnA at y6 ⊢
            rw [fI_wfI_ne _ _ (by decide), fI_wfI_ne _ _ (by decide), fI_wfI_ne _ _ (by decide)]
            exact y6
          obtain ⟨h', a1, a2, a3, a4⟩ := ih z (lnE b T c + 1) (k + 1) w (j + 1) H SH RH (by omega) (by omega) (by omega) (by omega) (by omega) (by omega)
          have hK : ∀ K, s_X5_readTape_L25 N z (A 5) (nI (lnE b T c + 1)) (nI (j + 1)) H = K → s_X5_readTape_L25 N (z + 1) (A 5) (nI c) (nI j) h = K := by
            intro K hK
            apply start
            rw [hp, g0, if_neg (by decide), a0, Option.bind_some, gX5_1 S14, Option.bind_some, vX4 S14 (q36 n), ea, Option.bind_some, if_neg (show ¬ (1 : Int32) = 0 by decide), nI_1, nI_1]
            exact hK
          have el : k + 1 + (gdL b T r (lnE b T c + 1)).length = k + (x :: gdL b T r (lnE b T c + 1)).length := by rw [List.length_cons]; omega
          refine ⟨h', fun q => hK _ (a1 (Nat.le_trans (Nat.le_of_eq el) q)), fun q => hK _ (a2 (Nat.lt_of_lt_of_le q (Nat.le_of_eq el.symm))), fH.trans a3, fun q => ?_⟩
          obtain ⟨c1, c2, c3, c4, c5, c6⟩ := a4 (Nat.le_trans (Nat.le_of_eq el) q)
          refine ⟨by rw [c1, el], fun i hi y hy => c2 i (by omega) y (keep i y hi hy), fun i hi => ?_, c4, fun i hi => by rw [c5 i hi, rH], c6⟩
          cases i with
          | zero => exact c2 k (by omega) x new
          | succ i =>
            have := c3 i (by simpa using hi)
            rw [show k + (i + 1) = k + 1 + i by omega]
            exact this
        · have hk16 : k = 16 := by omega
          have ea : s_X4_add h14 (A (200 + 36)) (some (A 6)) = some (0, h14) := by
            unfold s_X4_add
            rw [gX4_1 S14 (q36 n), t0, Option.bind_some, if_neg (show ¬ nI k < 16 from nI_nlt (b := 16) (by omega) (by omega))]
          refine ⟨h14, fun q => ?_, fun _ => ?_, f14.toR, fun q => ?_⟩
          · rw [List.length_cons] at q
            omega
          · apply start
            rw [hp, g0, if_neg (by decide), a0, Option.bind_some, gX5_1 S14, Option.bind_some, vX4 S14 (q36 n), ea, Option.bind_some, if_pos rfl]
          · rw [List.length_cons] at q
            omega
    · refine E (r + 1) z c k w j h S R hc (by omega) h5 h6 ?_ ?_
      · unfold gdL
        rw [if_neg hc]
      · unfold wrL_
        rw [if_neg hc]
theorem readTapeX {h : IH} {A : Nat → Nat} {n : Nat} (S : ShX h A n) {T N : Nat} {b : Nat → Int32} (hN : 2000 ≤ N) (hT : T ≤ 1000) (t1 : fI h 1001 (A 1) = nI T) (t2 : rI h (A 2) = b) : ∃ h', s_X5_readTape N h (A 5) = some (if (gdL b T (T + 1) 0).length ≤ 16 then 1 else 0, h') ∧ FrR2 A h h' ∧ ((gdL b T (T + 1) 0).length ≤ 16 → fI h' 401 (A 236) = nI (gdL b T (T + 1) 0).length ∧ fI h' 402 (A 236) = 0 ∧ (∀ i, i < (gdL b T (T + 1) 0).length → LnA h' (A (1000 + (16 * 36 + i))) b ((gdL b T (T + 1) 0).getD i dLn)) ∧ fI h' 503 (A 5) = nI (wrL_ b T (T + 1) 0 0).length ∧ (∀ i, i < (wrL_ b T (T + 1) 0 0).length → rI h' (A 7) i = (wrL_ b T (T + 1) 0 0).getD i 0)) := by
  unfold s_X5_readTape
  have a0 : gR h 5 4 (some (A 5)) = some (some (A (200 + 36))) := gX5_4 S
  have S1 : ShX (wfI h 401 (A (200 + 36)) 0) A n := S
  have a1 : gR (wfI h 401 (A (200 + 36)) 0) 5 4 (some (A 5)) = some (some (A (200 + 36))) := gX5_4 S1
  have S2 : ShX (wfI (wfI h 401 (A (200 + 36)) 0) 402 (A (200 + 36)) 0) A n := S
  rw [a0, Option.bind_some, pX4_1 S (q36 n), Option.bind_some, a1, Option.bind_some, pX4_2z S1 (q36 n) (Or.inl rfl), Option.bind_some, pX5_3 S2, Option.bind_some]
  generalize hH : wfI (wfI (wfI h 401 (A (200 + 36)) 0) 402 (A (200 + 36)) 0) 503 (A 5) 0 = H
  have SH : ShX H A n := by rw [← hH]; exact S
  have RH : RdX H A T 0 0 b := by
    rw [← hH]
    refine ⟨by rw [fI_wfI_ne _ _ (by decide), fI_wfI_ne _ _ (by decide), fI_wfI_ne _ _ (by decide), t1], t2, ?_, fI_wfI _ _ _ _⟩
    rw [fI_wfI_ne _ _ (by decide), fI_wfI_ne _ _ (by decide)]
    exact fI_wfI _ _ _ _
  have fH : FrR2 A h H := by
    rw [← hH]
    exact ((Fr.wI _ _ _ _ (Or.inl (Or.inr (Or.inr (Or.inl ⟨rfl, rfl⟩))))).trans (Fr.wI _ _ _ _ (Or.inr ⟨rfl, rfl⟩))).trans (Fr.wI _ _ _ _ (Or.inl (Or.inr (Or.inr (Or.inr rfl)))))
  have m3 : fI H 402 (A 236) = 0 := by
    rw [← hH, fI_wfI_ne _ _ (by decide)]
    exact fI_wfI _ _ _ _
  obtain ⟨h', b1, b2, b3, b4⟩ := readL hN hT (T + 1) N 0 0 0 0 H SH RH (by omega) (by omega) (by omega) (by omega) (by omega) (by omega)
  have b9 : FrR2 A H h' := Fr.mono b3 (fun f a q => Or.inl q) (fun f a q => q) (fun a q => q) (fun a q => q)
  rw [nI_0, Nat.zero_add] at b1 b2
  simp only [Nat.zero_add] at b4
  by_cases q : (gdL b T (T + 1) 0).length ≤ 16
  · rw [b1 q, if_pos q]
    obtain ⟨c1, c2, c3, c4, c5, c6⟩ := b4 q
    refine ⟨h', rfl, fH.trans b9, fun _ => ⟨c1, ?_, c3, c4, c6⟩⟩
    rw [b3.fI (fun z => ?_), m3]
    rcases z with z | z | z | z
    · omega
    · omega
    · omega
    · omega
  · rw [b2 (by omega), if_neg q]
    exact ⟨h', rfl, fH.trans b9, fun z => absurd z q⟩
